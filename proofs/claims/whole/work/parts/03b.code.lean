theorem dX10_init_0 : decode cX10_init 0 = .ok (.aload_n 0, 1) := by decide +kernel
theorem dX10_init_1 : decode cX10_init 1 = .ok (.invokespecial 1, 3) := by decide +kernel
theorem dX10_init_4 : decode cX10_init 4 = .ok (.aload_n 0, 1) := by decide +kernel
theorem dX10_init_5 : decode cX10_init 5 = .ok (.new 7, 3) := by decide +kernel
theorem dX10_init_8 : decode cX10_init 8 = .ok (.dup, 1) := by decide +kernel
theorem dX10_init_9 : decode cX10_init 9 = .ok (.invokespecial 9, 3) := by decide +kernel
theorem dX10_init_12 : decode cX10_init 12 = .ok (.putfield 10, 3) := by decide +kernel
theorem dX10_init_15 : decode cX10_init 15 = .ok (.aload_n 0, 1) := by decide +kernel
theorem dX10_init_16 : decode cX10_init 16 = .ok (.new 16, 3) := by decide +kernel
theorem dX10_init_19 : decode cX10_init 19 = .ok (.dup, 1) := by decide +kernel
theorem dX10_init_20 : decode cX10_init 20 = .ok (.aload_n 0, 1) := by decide +kernel
theorem dX10_init_21 : decode cX10_init 21 = .ok (.getfield 10, 3) := by decide +kernel
theorem dX10_init_24 : decode cX10_init 24 = .ok (.invokespecial 18, 3) := by decide +kernel
theorem dX10_init_27 : decode cX10_init 27 = .ok (.putfield 21, 3) := by decide +kernel
theorem dX10_init_30 : decode cX10_init 30 = .ok (.aload_n 0, 1) := by decide +kernel
theorem dX10_init_31 : decode cX10_init 31 = .ok (.new 16, 3) := by decide +kernel
theorem dX10_init_34 : decode cX10_init 34 = .ok (.dup, 1) := by decide +kernel
theorem dX10_init_35 : decode cX10_init 35 = .ok (.aload_n 0, 1) := by decide +kernel
theorem dX10_init_36 : decode cX10_init 36 = .ok (.getfield 10, 3) := by decide +kernel
theorem dX10_init_39 : decode cX10_init 39 = .ok (.invokespecial 18, 3) := by decide +kernel
theorem dX10_init_42 : decode cX10_init 42 = .ok (.putfield 25, 3) := by decide +kernel
theorem dX10_init_45 : decode cX10_init 45 = .ok (.aload_n 0, 1) := by decide +kernel
theorem dX10_init_46 : decode cX10_init 46 = .ok (.new 7, 3) := by decide +kernel
theorem dX10_init_49 : decode cX10_init 49 = .ok (.dup, 1) := by decide +kernel
theorem dX10_init_50 : decode cX10_init 50 = .ok (.invokespecial 9, 3) := by decide +kernel
theorem dX10_init_53 : decode cX10_init 53 = .ok (.putfield 28, 3) := by decide +kernel
theorem dX10_init_56 : decode cX10_init 56 = .ok (.aload_n 0, 1) := by decide +kernel
theorem dX10_init_57 : decode cX10_init 57 = .ok (.new 16, 3) := by decide +kernel
theorem dX10_init_60 : decode cX10_init 60 = .ok (.dup, 1) := by decide +kernel
theorem dX10_init_61 : decode cX10_init 61 = .ok (.aload_n 0, 1) := by decide +kernel
theorem dX10_init_62 : decode cX10_init 62 = .ok (.getfield 28, 3) := by decide +kernel
theorem dX10_init_65 : decode cX10_init 65 = .ok (.invokespecial 18, 3) := by decide +kernel
theorem dX10_init_68 : decode cX10_init 68 = .ok (.putfield 31, 3) := by decide +kernel
theorem dX10_init_71 : decode cX10_init 71 = .ok (.aload_n 0, 1) := by decide +kernel
theorem dX10_init_72 : decode cX10_init 72 = .ok (.new 34, 3) := by decide +kernel
theorem dX10_init_75 : decode cX10_init 75 = .ok (.dup, 1) := by decide +kernel
theorem dX10_init_76 : decode cX10_init 76 = .ok (.invokespecial 36, 3) := by decide +kernel
theorem dX10_init_79 : decode cX10_init 79 = .ok (.putfield 37, 3) := by decide +kernel
theorem dX10_init_82 : decode cX10_init 82 = .ok (.aload_n 0, 1) := by decide +kernel
theorem dX10_init_83 : decode cX10_init 83 = .ok (.new 41, 3) := by decide +kernel
theorem dX10_init_86 : decode cX10_init 86 = .ok (.dup, 1) := by decide +kernel
theorem dX10_init_87 : decode cX10_init 87 = .ok (.aload_n 0, 1) := by decide +kernel
theorem dX10_init_88 : decode cX10_init 88 = .ok (.getfield 10, 3) := by decide +kernel
theorem dX10_init_91 : decode cX10_init 91 = .ok (.invokespecial 43, 3) := by decide +kernel
theorem dX10_init_94 : decode cX10_init 94 = .ok (.putfield 44, 3) := by decide +kernel
theorem dX10_init_97 : decode cX10_init 97 = .ok (.aload_n 0, 1) := by decide +kernel
theorem dX10_init_98 : decode cX10_init 98 = .ok (.new 48, 3) := by decide +kernel
theorem dX10_init_101 : decode cX10_init 101 = .ok (.dup, 1) := by decide +kernel
theorem dX10_init_102 : decode cX10_init 102 = .ok (.invokespecial 50, 3) := by decide +kernel
theorem dX10_init_105 : decode cX10_init 105 = .ok (.putfield 51, 3) := by decide +kernel
theorem dX10_init_108 : decode cX10_init 108 = .ok (.aload_n 0, 1) := by decide +kernel
theorem dX10_init_109 : decode cX10_init 109 = .ok (.bipush 6, 2) := by decide +kernel
theorem dX10_init_111 : decode cX10_init 111 = .ok (.anewarray 55, 3) := by decide +kernel
theorem dX10_init_114 : decode cX10_init 114 = .ok (.putfield 57, 3) := by decide +kernel
theorem dX10_init_117 : decode cX10_init 117 = .ok (.aload_n 0, 1) := by decide +kernel
theorem dX10_init_118 : decode cX10_init 118 = .ok (.iconst 4, 1) := by decide +kernel
theorem dX10_init_119 : decode cX10_init 119 = .ok (.anewarray 61, 3) := by decide +kernel
theorem dX10_init_122 : decode cX10_init 122 = .ok (.putfield 63, 3) := by decide +kernel
theorem dX10_init_125 : decode cX10_init 125 = .ok (.aload_n 0, 1) := by decide +kernel
theorem dX10_init_126 : decode cX10_init 126 = .ok (.bipush 9, 2) := by decide +kernel
theorem dX10_init_128 : decode cX10_init 128 = .ok (.newarray .int, 2) := by decide +kernel
theorem dX10_init_130 : decode cX10_init 130 = .ok (.putfield 67, 3) := by decide +kernel
theorem dX10_init_133 : decode cX10_init 133 = .ok (.aload_n 0, 1) := by decide +kernel
theorem dX10_init_134 : decode cX10_init 134 = .ok (.bipush 6, 2) := by decide +kernel
theorem dX10_init_136 : decode cX10_init 136 = .ok (.newarray .int, 2) := by decide +kernel
theorem dX10_init_138 : decode cX10_init 138 = .ok (.putfield 71, 3) := by decide +kernel
theorem dX10_init_141 : decode cX10_init 141 = .ok (.iconst 0, 1) := by decide +kernel
theorem dX10_init_142 : decode cX10_init 142 = .ok (.istore_n 1, 1) := by decide +kernel
theorem dX10_init_143 : decode cX10_init 143 = .ok (.iload_n 1, 1) := by decide +kernel
theorem dX10_init_144 : decode cX10_init 144 = .ok (.bipush 6, 2) := by decide +kernel
theorem dX10_init_146 : decode cX10_init 146 = .ok (.if_icmp .ge 22, 3) := by decide +kernel
theorem dX10_init_149 : decode cX10_init 149 = .ok (.aload_n 0, 1) := by decide +kernel
theorem dX10_init_150 : decode cX10_init 150 = .ok (.getfield 57, 3) := by decide +kernel
theorem dX10_init_153 : decode cX10_init 153 = .ok (.iload_n 1, 1) := by decide +kernel
theorem dX10_init_154 : decode cX10_init 154 = .ok (.new 55, 3) := by decide +kernel
theorem dX10_init_157 : decode cX10_init 157 = .ok (.dup, 1) := by decide +kernel
theorem dX10_init_158 : decode cX10_init 158 = .ok (.invokespecial 74, 3) := by decide +kernel
theorem dX10_init_161 : decode cX10_init 161 = .ok (.aastore, 1) := by decide +kernel
theorem dX10_init_162 : decode cX10_init 162 = .ok (.iinc 1 1, 3) := by decide +kernel
theorem dX10_init_165 : decode cX10_init 165 = .ok (.goto (-22), 3) := by decide +kernel
theorem dX10_init_168 : decode cX10_init 168 = .ok (.iconst 0, 1) := by decide +kernel
theorem dX10_init_169 : decode cX10_init 169 = .ok (.istore_n 1, 1) := by decide +kernel
theorem dX10_init_170 : decode cX10_init 170 = .ok (.iload_n 1, 1) := by decide +kernel
theorem dX10_init_171 : decode cX10_init 171 = .ok (.iconst 4, 1) := by decide +kernel
theorem dX10_init_172 : decode cX10_init 172 = .ok (.if_icmp .ge 22, 3) := by decide +kernel
theorem dX10_init_175 : decode cX10_init 175 = .ok (.aload_n 0, 1) := by decide +kernel
theorem dX10_init_176 : decode cX10_init 176 = .ok (.getfield 63, 3) := by decide +kernel
theorem dX10_init_179 : decode cX10_init 179 = .ok (.iload_n 1, 1) := by decide +kernel
theorem dX10_init_180 : decode cX10_init 180 = .ok (.new 61, 3) := by decide +kernel
theorem dX10_init_183 : decode cX10_init 183 = .ok (.dup, 1) := by decide +kernel
theorem dX10_init_184 : decode cX10_init 184 = .ok (.invokespecial 75, 3) := by decide +kernel
theorem dX10_init_187 : decode cX10_init 187 = .ok (.aastore, 1) := by decide +kernel
theorem dX10_init_188 : decode cX10_init 188 = .ok (.iinc 1 1, 3) := by decide +kernel
theorem dX10_init_191 : decode cX10_init 191 = .ok (.goto (-21), 3) := by decide +kernel
theorem dX10_init_194 : decode cX10_init 194 = .ok (.return_, 1) := by decide +kernel
theorem dX10_post_0 : decode cX10_post 0 = .ok (.iload_n 1, 1) := by decide +kernel
theorem dX10_post_1 : decode cX10_post 1 = .ok (.iconst 1, 1) := by decide +kernel
theorem dX10_post_2 : decode cX10_post 2 = .ok (.iconst 3, 1) := by decide +kernel
theorem dX10_post_3 : decode cX10_post 3 = .ok (.invokestatic 76, 3) := by decide +kernel
theorem dX10_post_6 : decode cX10_post 6 = .ok (.ifCond .eq 24, 3) := by decide +kernel
theorem dX10_post_9 : decode cX10_post 9 = .ok (.iload_n 2, 1) := by decide +kernel
theorem dX10_post_10 : decode cX10_post 10 = .ok (.iconst 0, 1) := by decide +kernel
theorem dX10_post_11 : decode cX10_post 11 = .ok (.bipush 99, 2) := by decide +kernel
theorem dX10_post_13 : decode cX10_post 13 = .ok (.invokestatic 76, 3) := by decide +kernel
theorem dX10_post_16 : decode cX10_post 16 = .ok (.ifCond .eq 14, 3) := by decide +kernel
theorem dX10_post_19 : decode cX10_post 19 = .ok (.iload_n 3, 1) := by decide +kernel
theorem dX10_post_20 : decode cX10_post 20 = .ok (.iconst 1, 1) := by decide +kernel
theorem dX10_post_21 : decode cX10_post 21 = .ok (.sipush 999, 3) := by decide +kernel
theorem dX10_post_24 : decode cX10_post 24 = .ok (.invokestatic 76, 3) := by decide +kernel
theorem dX10_post_27 : decode cX10_post 27 = .ok (.ifCond .ne 5, 3) := by decide +kernel
theorem dX10_post_30 : decode cX10_post 30 = .ok (.iconst (-1), 1) := by decide +kernel
theorem dX10_post_31 : decode cX10_post 31 = .ok (.ireturn, 1) := by decide +kernel
theorem dX10_post_32 : decode cX10_post 32 = .ok (.aload_n 0, 1) := by decide +kernel
theorem dX10_post_33 : decode cX10_post 33 = .ok (.getfield 21, 3) := by decide +kernel
theorem dX10_post_36 : decode cX10_post 36 = .ok (.getfield 80, 3) := by decide +kernel
theorem dX10_post_39 : decode cX10_post 39 = .ok (.ifCond .le 6, 3) := by decide +kernel
theorem dX10_post_42 : decode cX10_post 42 = .ok (.bipush (-2), 2) := by decide +kernel
theorem dX10_post_44 : decode cX10_post 44 = .ok (.ireturn, 1) := by decide +kernel
theorem dX10_post_45 : decode cX10_post 45 = .ok (.aload_n 0, 1) := by decide +kernel
theorem dX10_post_46 : decode cX10_post 46 = .ok (.getfield 10, 3) := by decide +kernel
theorem dX10_post_49 : decode cX10_post 49 = .ok (.getfield 84, 3) := by decide +kernel
theorem dX10_post_52 : decode cX10_post 52 = .ok (.bipush 6, 2) := by decide +kernel
theorem dX10_post_54 : decode cX10_post 54 = .ok (.if_icmp .ge 17, 3) := by decide +kernel
theorem dX10_post_57 : decode cX10_post 57 = .ok (.aload_n 0, 1) := by decide +kernel
theorem dX10_post_58 : decode cX10_post 58 = .ok (.getfield 10, 3) := by decide +kernel
theorem dX10_post_61 : decode cX10_post 61 = .ok (.invokevirtual 87, 3) := by decide +kernel
theorem dX10_post_64 : decode cX10_post 64 = .ok (.iload_n 1, 1) := by decide +kernel
theorem dX10_post_65 : decode cX10_post 65 = .ok (.iadd, 1) := by decide +kernel
theorem dX10_post_66 : decode cX10_post 66 = .ok (.bipush 10, 2) := by decide +kernel
theorem dX10_post_68 : decode cX10_post 68 = .ok (.if_icmp .le 6, 3) := by decide +kernel
theorem dX10_post_71 : decode cX10_post 71 = .ok (.bipush (-3), 2) := by decide +kernel
theorem dX10_post_73 : decode cX10_post 73 = .ok (.ireturn, 1) := by decide +kernel
theorem dX10_post_74 : decode cX10_post 74 = .ok (.aload_n 0, 1) := by decide +kernel
theorem dX10_post_75 : decode cX10_post 75 = .ok (.getfield 10, 3) := by decide +kernel
theorem dX10_post_78 : decode cX10_post 78 = .ok (.iload_n 1, 1) := by decide +kernel
theorem dX10_post_79 : decode cX10_post 79 = .ok (.iload_n 2, 1) := by decide +kernel
theorem dX10_post_80 : decode cX10_post 80 = .ok (.iload_n 3, 1) := by decide +kernel
theorem dX10_post_81 : decode cX10_post 81 = .ok (.invokevirtual 91, 3) := by decide +kernel
theorem dX10_post_84 : decode cX10_post 84 = .ok (.ireturn, 1) := by decide +kernel
theorem dX10_guest_0 : decode cX10_guest 0 = .ok (.aload_n 0, 1) := by decide +kernel
theorem dX10_guest_1 : decode cX10_guest 1 = .ok (.getfield 10, 3) := by decide +kernel
theorem dX10_guest_4 : decode cX10_guest 4 = .ok (.getfield 95, 3) := by decide +kernel
theorem dX10_guest_7 : decode cX10_guest 7 = .ok (.bipush 9, 2) := by decide +kernel
theorem dX10_guest_9 : decode cX10_guest 9 = .ok (.if_icmp .lt 8, 3) := by decide +kernel
theorem dX10_guest_12 : decode cX10_guest 12 = .ok (.bipush (-3), 2) := by decide +kernel
theorem dX10_guest_14 : decode cX10_guest 14 = .ok (.goto 10, 3) := by decide +kernel
theorem dX10_guest_17 : decode cX10_guest 17 = .ok (.aload_n 0, 1) := by decide +kernel
theorem dX10_guest_18 : decode cX10_guest 18 = .ok (.getfield 10, 3) := by decide +kernel
theorem dX10_guest_21 : decode cX10_guest 21 = .ok (.invokevirtual 98, 3) := by decide +kernel
theorem dX10_guest_24 : decode cX10_guest 24 = .ok (.ireturn, 1) := by decide +kernel
theorem dX10_worth_0 : decode cX10_worth 0 = .ok (.aload_n 0, 1) := by decide +kernel
theorem dX10_worth_1 : decode cX10_worth 1 = .ok (.iload_n 1, 1) := by decide +kernel
theorem dX10_worth_2 : decode cX10_worth 2 = .ok (.invokevirtual 101, 3) := by decide +kernel
theorem dX10_worth_5 : decode cX10_worth 5 = .ok (.ifCond .eq 21, 3) := by decide +kernel
theorem dX10_worth_8 : decode cX10_worth 8 = .ok (.aload_n 0, 1) := by decide +kernel
theorem dX10_worth_9 : decode cX10_worth 9 = .ok (.iload_n 2, 1) := by decide +kernel
theorem dX10_worth_10 : decode cX10_worth 10 = .ok (.invokevirtual 105, 3) := by decide +kernel
theorem dX10_worth_13 : decode cX10_worth 13 = .ok (.ifCond .eq 13, 3) := by decide +kernel
theorem dX10_worth_16 : decode cX10_worth 16 = .ok (.iload_n 3, 1) := by decide +kernel
theorem dX10_worth_17 : decode cX10_worth 17 = .ok (.iconst 0, 1) := by decide +kernel
theorem dX10_worth_18 : decode cX10_worth 18 = .ok (.bipush 99, 2) := by decide +kernel
theorem dX10_worth_20 : decode cX10_worth 20 = .ok (.invokestatic 76, 3) := by decide +kernel
theorem dX10_worth_23 : decode cX10_worth 23 = .ok (.ifCond .ne 5, 3) := by decide +kernel
theorem dX10_worth_26 : decode cX10_worth 26 = .ok (.iconst (-1), 1) := by decide +kernel
theorem dX10_worth_27 : decode cX10_worth 27 = .ok (.ireturn, 1) := by decide +kernel
theorem dX10_worth_28 : decode cX10_worth 28 = .ok (.aload_n 0, 1) := by decide +kernel
theorem dX10_worth_29 : decode cX10_worth 29 = .ok (.getfield 21, 3) := by decide +kernel
theorem dX10_worth_32 : decode cX10_worth 32 = .ok (.iload_n 1, 1) := by decide +kernel
theorem dX10_worth_33 : decode cX10_worth 33 = .ok (.invokevirtual 108, 3) := by decide +kernel
theorem dX10_worth_36 : decode cX10_worth 36 = .ok (.ifCond .eq 6, 3) := by decide +kernel
theorem dX10_worth_39 : decode cX10_worth 39 = .ok (.bipush (-2), 2) := by decide +kernel
theorem dX10_worth_41 : decode cX10_worth 41 = .ok (.ireturn, 1) := by decide +kernel
theorem dX10_worth_42 : decode cX10_worth 42 = .ok (.aload_n 0, 1) := by decide +kernel
theorem dX10_worth_43 : decode cX10_worth 43 = .ok (.getfield 10, 3) := by decide +kernel
theorem dX10_worth_46 : decode cX10_worth 46 = .ok (.iload_n 1, 1) := by decide +kernel
theorem dX10_worth_47 : decode cX10_worth 47 = .ok (.iload_n 2, 1) := by decide +kernel
theorem dX10_worth_48 : decode cX10_worth 48 = .ok (.invokevirtual 111, 3) := by decide +kernel
theorem dX10_worth_51 : decode cX10_worth 51 = .ok (.istore 4, 2) := by decide +kernel
theorem dX10_worth_53 : decode cX10_worth 53 = .ok (.aload_n 0, 1) := by decide +kernel
theorem dX10_worth_54 : decode cX10_worth 54 = .ok (.getfield 10, 3) := by decide +kernel
theorem dX10_worth_57 : decode cX10_worth 57 = .ok (.iload_n 1, 1) := by decide +kernel
theorem dX10_worth_58 : decode cX10_worth 58 = .ok (.iload_n 2, 1) := by decide +kernel
theorem dX10_worth_59 : decode cX10_worth 59 = .ok (.iload_n 3, 1) := by decide +kernel
theorem dX10_worth_60 : decode cX10_worth 60 = .ok (.invokevirtual 115, 3) := by decide +kernel
theorem dX10_worth_63 : decode cX10_worth 63 = .ok (.iload 4, 2) := by decide +kernel
theorem dX10_worth_65 : decode cX10_worth 65 = .ok (.ireturn, 1) := by decide +kernel
theorem dX10_chance_0 : decode cX10_chance 0 = .ok (.aload_n 0, 1) := by decide +kernel
theorem dX10_chance_1 : decode cX10_chance 1 = .ok (.iload_n 1, 1) := by decide +kernel
theorem dX10_chance_2 : decode cX10_chance 2 = .ok (.invokevirtual 101, 3) := by decide +kernel
theorem dX10_chance_5 : decode cX10_chance 5 = .ok (.ifCond .eq 13, 3) := by decide +kernel
theorem dX10_chance_8 : decode cX10_chance 8 = .ok (.iload_n 2, 1) := by decide +kernel
theorem dX10_chance_9 : decode cX10_chance 9 = .ok (.iconst 0, 1) := by decide +kernel
theorem dX10_chance_10 : decode cX10_chance 10 = .ok (.bipush 9, 2) := by decide +kernel
theorem dX10_chance_12 : decode cX10_chance 12 = .ok (.invokestatic 76, 3) := by decide +kernel
theorem dX10_chance_15 : decode cX10_chance 15 = .ok (.ifCond .ne 5, 3) := by decide +kernel
theorem dX10_chance_18 : decode cX10_chance 18 = .ok (.iconst (-1), 1) := by decide +kernel
theorem dX10_chance_19 : decode cX10_chance 19 = .ok (.ireturn, 1) := by decide +kernel
theorem dX10_chance_20 : decode cX10_chance 20 = .ok (.aload_n 0, 1) := by decide +kernel
theorem dX10_chance_21 : decode cX10_chance 21 = .ok (.getfield 10, 3) := by decide +kernel
theorem dX10_chance_24 : decode cX10_chance 24 = .ok (.getfield 119, 3) := by decide +kernel
theorem dX10_chance_27 : decode cX10_chance 27 = .ok (.iload_n 1, 1) := by decide +kernel
theorem dX10_chance_28 : decode cX10_chance 28 = .ok (.iaload, 1) := by decide +kernel
theorem dX10_chance_29 : decode cX10_chance 29 = .ok (.istore_n 3, 1) := by decide +kernel
theorem dX10_chance_30 : decode cX10_chance 30 = .ok (.aload_n 0, 1) := by decide +kernel
theorem dX10_chance_31 : decode cX10_chance 31 = .ok (.getfield 10, 3) := by decide +kernel
theorem dX10_chance_34 : decode cX10_chance 34 = .ok (.iload_n 1, 1) := by decide +kernel
theorem dX10_chance_35 : decode cX10_chance 35 = .ok (.iload_n 2, 1) := by decide +kernel
theorem dX10_chance_36 : decode cX10_chance 36 = .ok (.invokevirtual 122, 3) := by decide +kernel
theorem dX10_chance_39 : decode cX10_chance 39 = .ok (.iload_n 3, 1) := by decide +kernel
theorem dX10_chance_40 : decode cX10_chance 40 = .ok (.ireturn, 1) := by decide +kernel
theorem dX10_rank_0 : decode cX10_rank 0 = .ok (.aload_n 0, 1) := by decide +kernel
theorem dX10_rank_1 : decode cX10_rank 1 = .ok (.iload_n 1, 1) := by decide +kernel
theorem dX10_rank_2 : decode cX10_rank 2 = .ok (.invokevirtual 105, 3) := by decide +kernel
theorem dX10_rank_5 : decode cX10_rank 5 = .ok (.ifCond .eq 13, 3) := by decide +kernel
theorem dX10_rank_8 : decode cX10_rank 8 = .ok (.iload_n 2, 1) := by decide +kernel
theorem dX10_rank_9 : decode cX10_rank 9 = .ok (.iconst 0, 1) := by decide +kernel
theorem dX10_rank_10 : decode cX10_rank 10 = .ok (.bipush 99, 2) := by decide +kernel
theorem dX10_rank_12 : decode cX10_rank 12 = .ok (.invokestatic 76, 3) := by decide +kernel
theorem dX10_rank_15 : decode cX10_rank 15 = .ok (.ifCond .ne 5, 3) := by decide +kernel
theorem dX10_rank_18 : decode cX10_rank 18 = .ok (.iconst (-1), 1) := by decide +kernel
theorem dX10_rank_19 : decode cX10_rank 19 = .ok (.ireturn, 1) := by decide +kernel
theorem dX10_rank_20 : decode cX10_rank 20 = .ok (.aload_n 0, 1) := by decide +kernel
theorem dX10_rank_21 : decode cX10_rank 21 = .ok (.getfield 21, 3) := by decide +kernel
theorem dX10_rank_24 : decode cX10_rank 24 = .ok (.getfield 80, 3) := by decide +kernel
theorem dX10_rank_27 : decode cX10_rank 27 = .ok (.ifCond .le 6, 3) := by decide +kernel
theorem dX10_rank_30 : decode cX10_rank 30 = .ok (.bipush (-2), 2) := by decide +kernel
theorem dX10_rank_32 : decode cX10_rank 32 = .ok (.ireturn, 1) := by decide +kernel
theorem dX10_rank_33 : decode cX10_rank 33 = .ok (.aload_n 0, 1) := by decide +kernel
theorem dX10_rank_34 : decode cX10_rank 34 = .ok (.getfield 10, 3) := by decide +kernel
theorem dX10_rank_37 : decode cX10_rank 37 = .ok (.getfield 126, 3) := by decide +kernel
theorem dX10_rank_40 : decode cX10_rank 40 = .ok (.iload_n 1, 1) := by decide +kernel
theorem dX10_rank_41 : decode cX10_rank 41 = .ok (.iaload, 1) := by decide +kernel
theorem dX10_rank_42 : decode cX10_rank 42 = .ok (.istore_n 3, 1) := by decide +kernel
theorem dX10_rank_43 : decode cX10_rank 43 = .ok (.aload_n 0, 1) := by decide +kernel
theorem dX10_rank_44 : decode cX10_rank 44 = .ok (.getfield 10, 3) := by decide +kernel
theorem dX10_rank_47 : decode cX10_rank 47 = .ok (.iload_n 1, 1) := by decide +kernel
theorem dX10_rank_48 : decode cX10_rank 48 = .ok (.iload_n 2, 1) := by decide +kernel
theorem dX10_rank_49 : decode cX10_rank 49 = .ok (.invokevirtual 129, 3) := by decide +kernel
theorem dX10_rank_52 : decode cX10_rank 52 = .ok (.iload_n 3, 1) := by decide +kernel
theorem dX10_rank_53 : decode cX10_rank 53 = .ok (.ireturn, 1) := by decide +kernel
theorem dX10_told_0 : decode cX10_told 0 = .ok (.aload_n 0, 1) := by decide +kernel
theorem dX10_told_1 : decode cX10_told 1 = .ok (.iload_n 1, 1) := by decide +kernel
theorem dX10_told_2 : decode cX10_told 2 = .ok (.invokevirtual 105, 3) := by decide +kernel
theorem dX10_told_5 : decode cX10_told 5 = .ok (.ifCond .ne 5, 3) := by decide +kernel
theorem dX10_told_8 : decode cX10_told 8 = .ok (.iconst (-1), 1) := by decide +kernel
theorem dX10_told_9 : decode cX10_told 9 = .ok (.ireturn, 1) := by decide +kernel
theorem dX10_told_10 : decode cX10_told 10 = .ok (.iload_n 2, 1) := by decide +kernel
theorem dX10_told_11 : decode cX10_told 11 = .ok (.tableswitch 108 0 6 #[41, 51, 61, 71, 80, 90, 99], 41) := by decide +kernel
theorem dX10_told_52 : decode cX10_told 52 = .ok (.aload_n 0, 1) := by decide +kernel
theorem dX10_told_53 : decode cX10_told 53 = .ok (.getfield 10, 3) := by decide +kernel
theorem dX10_told_56 : decode cX10_told 56 = .ok (.getfield 132, 3) := by decide +kernel
theorem dX10_told_59 : decode cX10_told 59 = .ok (.iload_n 1, 1) := by decide +kernel
theorem dX10_told_60 : decode cX10_told 60 = .ok (.iaload, 1) := by decide +kernel
theorem dX10_told_61 : decode cX10_told 61 = .ok (.ireturn, 1) := by decide +kernel
theorem dX10_told_62 : decode cX10_told 62 = .ok (.aload_n 0, 1) := by decide +kernel
theorem dX10_told_63 : decode cX10_told 63 = .ok (.getfield 10, 3) := by decide +kernel
theorem dX10_told_66 : decode cX10_told 66 = .ok (.getfield 126, 3) := by decide +kernel
theorem dX10_told_69 : decode cX10_told 69 = .ok (.iload_n 1, 1) := by decide +kernel
theorem dX10_told_70 : decode cX10_told 70 = .ok (.iaload, 1) := by decide +kernel
theorem dX10_told_71 : decode cX10_told 71 = .ok (.ireturn, 1) := by decide +kernel
theorem dX10_told_72 : decode cX10_told 72 = .ok (.aload_n 0, 1) := by decide +kernel
theorem dX10_told_73 : decode cX10_told 73 = .ok (.getfield 10, 3) := by decide +kernel
theorem dX10_told_76 : decode cX10_told 76 = .ok (.getfield 135, 3) := by decide +kernel
theorem dX10_told_79 : decode cX10_told 79 = .ok (.iload_n 1, 1) := by decide +kernel
theorem dX10_told_80 : decode cX10_told 80 = .ok (.iaload, 1) := by decide +kernel
theorem dX10_told_81 : decode cX10_told 81 = .ok (.ireturn, 1) := by decide +kernel
theorem dX10_told_82 : decode cX10_told 82 = .ok (.aload_n 0, 1) := by decide +kernel
theorem dX10_told_83 : decode cX10_told 83 = .ok (.getfield 21, 3) := by decide +kernel
theorem dX10_told_86 : decode cX10_told 86 = .ok (.iload_n 1, 1) := by decide +kernel
theorem dX10_told_87 : decode cX10_told 87 = .ok (.invokevirtual 138, 3) := by decide +kernel
theorem dX10_told_90 : decode cX10_told 90 = .ok (.ireturn, 1) := by decide +kernel
theorem dX10_told_91 : decode cX10_told 91 = .ok (.aload_n 0, 1) := by decide +kernel
theorem dX10_told_92 : decode cX10_told 92 = .ok (.getfield 21, 3) := by decide +kernel
theorem dX10_told_95 : decode cX10_told 95 = .ok (.getfield 142, 3) := by decide +kernel
theorem dX10_told_98 : decode cX10_told 98 = .ok (.iload_n 1, 1) := by decide +kernel
theorem dX10_told_99 : decode cX10_told 99 = .ok (.iaload, 1) := by decide +kernel
theorem dX10_told_100 : decode cX10_told 100 = .ok (.ireturn, 1) := by decide +kernel
theorem dX10_told_101 : decode cX10_told 101 = .ok (.aload_n 0, 1) := by decide +kernel
theorem dX10_told_102 : decode cX10_told 102 = .ok (.getfield 21, 3) := by decide +kernel
theorem dX10_told_105 : decode cX10_told 105 = .ok (.iload_n 1, 1) := by decide +kernel
theorem dX10_told_106 : decode cX10_told 106 = .ok (.invokevirtual 145, 3) := by decide +kernel
theorem dX10_told_109 : decode cX10_told 109 = .ok (.ireturn, 1) := by decide +kernel
theorem dX10_told_110 : decode cX10_told 110 = .ok (.aload_n 0, 1) := by decide +kernel
theorem dX10_told_111 : decode cX10_told 111 = .ok (.getfield 10, 3) := by decide +kernel
theorem dX10_told_114 : decode cX10_told 114 = .ok (.iload_n 1, 1) := by decide +kernel
theorem dX10_told_115 : decode cX10_told 115 = .ok (.invokevirtual 148, 3) := by decide +kernel
theorem dX10_told_118 : decode cX10_told 118 = .ok (.ireturn, 1) := by decide +kernel
theorem dX10_told_119 : decode cX10_told 119 = .ok (.iconst (-1), 1) := by decide +kernel
theorem dX10_told_120 : decode cX10_told 120 = .ok (.ireturn, 1) := by decide +kernel
theorem dX10_feed_0 : decode cX10_feed 0 = .ok (.aload_n 0, 1) := by decide +kernel
theorem dX10_feed_1 : decode cX10_feed 1 = .ok (.getfield 51, 3) := by decide +kernel
theorem dX10_feed_4 : decode cX10_feed 4 = .ok (.getfield 151, 3) := by decide +kernel
theorem dX10_feed_7 : decode cX10_feed 7 = .ok (.bipush 8, 2) := by decide +kernel
theorem dX10_feed_9 : decode cX10_feed 9 = .ok (.iadd, 1) := by decide +kernel
theorem dX10_feed_10 : decode cX10_feed 10 = .ok (.sipush 160, 3) := by decide +kernel
theorem dX10_feed_13 : decode cX10_feed 13 = .ok (.if_icmp .le 6, 3) := by decide +kernel
theorem dX10_feed_16 : decode cX10_feed 16 = .ok (.bipush (-3), 2) := by decide +kernel
theorem dX10_feed_18 : decode cX10_feed 18 = .ok (.ireturn, 1) := by decide +kernel
theorem dX10_feed_19 : decode cX10_feed 19 = .ok (.aload_n 0, 1) := by decide +kernel
theorem dX10_feed_20 : decode cX10_feed 20 = .ok (.getfield 51, 3) := by decide +kernel
theorem dX10_feed_23 : decode cX10_feed 23 = .ok (.lload_n 1, 1) := by decide +kernel
theorem dX10_feed_24 : decode cX10_feed 24 = .ok (.invokevirtual 154, 3) := by decide +kernel
theorem dX10_feed_27 : decode cX10_feed 27 = .ok (.aload_n 0, 1) := by decide +kernel
theorem dX10_feed_28 : decode cX10_feed 28 = .ok (.getfield 51, 3) := by decide +kernel
theorem dX10_feed_31 : decode cX10_feed 31 = .ok (.getfield 151, 3) := by decide +kernel
theorem dX10_feed_34 : decode cX10_feed 34 = .ok (.ireturn, 1) := by decide +kernel
theorem dX10_end_0 : decode cX10_end 0 = .ok (.iload_n 1, 1) := by decide +kernel
theorem dX10_end_1 : decode cX10_end 1 = .ok (.iconst 0, 1) := by decide +kernel
theorem dX10_end_2 : decode cX10_end 2 = .ok (.aload_n 0, 1) := by decide +kernel
theorem dX10_end_3 : decode cX10_end 3 = .ok (.getfield 51, 3) := by decide +kernel
theorem dX10_end_6 : decode cX10_end 6 = .ok (.getfield 151, 3) := by decide +kernel
theorem dX10_end_9 : decode cX10_end 9 = .ok (.invokestatic 76, 3) := by decide +kernel
theorem dX10_end_12 : decode cX10_end 12 = .ok (.ifCond .ne 5, 3) := by decide +kernel
theorem dX10_end_15 : decode cX10_end 15 = .ok (.iconst (-1), 1) := by decide +kernel
theorem dX10_end_16 : decode cX10_end 16 = .ok (.ireturn, 1) := by decide +kernel
theorem dX10_end_17 : decode cX10_end 17 = .ok (.aload_n 0, 1) := by decide +kernel
theorem dX10_end_18 : decode cX10_end 18 = .ok (.getfield 51, 3) := by decide +kernel
theorem dX10_end_21 : decode cX10_end 21 = .ok (.getfield 151, 3) := by decide +kernel
theorem dX10_end_24 : decode cX10_end 24 = .ok (.istore_n 2, 1) := by decide +kernel
theorem dX10_end_25 : decode cX10_end 25 = .ok (.aload_n 0, 1) := by decide +kernel
theorem dX10_end_26 : decode cX10_end 26 = .ok (.getfield 51, 3) := by decide +kernel
theorem dX10_end_29 : decode cX10_end 29 = .ok (.iload_n 1, 1) := by decide +kernel
theorem dX10_end_30 : decode cX10_end 30 = .ok (.putfield 151, 3) := by decide +kernel
theorem dX10_end_33 : decode cX10_end 33 = .ok (.iload_n 2, 1) := by decide +kernel
theorem dX10_end_34 : decode cX10_end 34 = .ok (.ireturn, 1) := by decide +kernel
theorem dX10_rule_0 : decode cX10_rule 0 = .ok (.aload_n 0, 1) := by decide +kernel
theorem dX10_rule_1 : decode cX10_rule 1 = .ok (.getfield 158, 3) := by decide +kernel
theorem dX10_rule_4 : decode cX10_rule 4 = .ok (.bipush 6, 2) := by decide +kernel
theorem dX10_rule_6 : decode cX10_rule 6 = .ok (.if_icmp .lt 6, 3) := by decide +kernel
theorem dX10_rule_9 : decode cX10_rule 9 = .ok (.bipush (-3), 2) := by decide +kernel
theorem dX10_rule_11 : decode cX10_rule 11 = .ok (.ireturn, 1) := by decide +kernel
theorem dX10_rule_12 : decode cX10_rule 12 = .ok (.aload_n 0, 1) := by decide +kernel
theorem dX10_rule_13 : decode cX10_rule 13 = .ok (.getfield 51, 3) := by decide +kernel
theorem dX10_rule_16 : decode cX10_rule 16 = .ok (.aload_n 0, 1) := by decide +kernel
theorem dX10_rule_17 : decode cX10_rule 17 = .ok (.getfield 57, 3) := by decide +kernel
theorem dX10_rule_20 : decode cX10_rule 20 = .ok (.aload_n 0, 1) := by decide +kernel
theorem dX10_rule_21 : decode cX10_rule 21 = .ok (.getfield 158, 3) := by decide +kernel
theorem dX10_rule_24 : decode cX10_rule 24 = .ok (.aaload, 1) := by decide +kernel
theorem dX10_rule_25 : decode cX10_rule 25 = .ok (.invokevirtual 161, 3) := by decide +kernel
theorem dX10_rule_28 : decode cX10_rule 28 = .ok (.aload_n 0, 1) := by decide +kernel
theorem dX10_rule_29 : decode cX10_rule 29 = .ok (.getfield 51, 3) := by decide +kernel
theorem dX10_rule_32 : decode cX10_rule 32 = .ok (.iconst 0, 1) := by decide +kernel
theorem dX10_rule_33 : decode cX10_rule 33 = .ok (.putfield 151, 3) := by decide +kernel
theorem dX10_rule_36 : decode cX10_rule 36 = .ok (.aload_n 0, 1) := by decide +kernel
theorem dX10_rule_37 : decode cX10_rule 37 = .ok (.aload_n 0, 1) := by decide +kernel
theorem dX10_rule_38 : decode cX10_rule 38 = .ok (.getfield 51, 3) := by decide +kernel
theorem dX10_rule_41 : decode cX10_rule 41 = .ok (.getfield 165, 3) := by decide +kernel
theorem dX10_rule_44 : decode cX10_rule 44 = .ok (.putfield 168, 3) := by decide +kernel
theorem dX10_rule_47 : decode cX10_rule 47 = .ok (.aload_n 0, 1) := by decide +kernel
theorem dX10_rule_48 : decode cX10_rule 48 = .ok (.getfield 168, 3) := by decide +kernel
theorem dX10_rule_51 : decode cX10_rule 51 = .ok (.ifCond .eq 14, 3) := by decide +kernel
theorem dX10_rule_54 : decode cX10_rule 54 = .ok (.bipush (-10), 2) := by decide +kernel
theorem dX10_rule_56 : decode cX10_rule 56 = .ok (.aload_n 0, 1) := by decide +kernel
theorem dX10_rule_57 : decode cX10_rule 57 = .ok (.getfield 51, 3) := by decide +kernel
theorem dX10_rule_60 : decode cX10_rule 60 = .ok (.getfield 171, 3) := by decide +kernel
theorem dX10_rule_63 : decode cX10_rule 63 = .ok (.isub, 1) := by decide +kernel
theorem dX10_rule_64 : decode cX10_rule 64 = .ok (.ireturn, 1) := by decide +kernel
theorem dX10_rule_65 : decode cX10_rule 65 = .ok (.aload_n 0, 1) := by decide +kernel
theorem dX10_rule_66 : decode cX10_rule 66 = .ok (.dup, 1) := by decide +kernel
theorem dX10_rule_67 : decode cX10_rule 67 = .ok (.getfield 158, 3) := by decide +kernel
theorem dX10_rule_70 : decode cX10_rule 70 = .ok (.iconst 1, 1) := by decide +kernel
theorem dX10_rule_71 : decode cX10_rule 71 = .ok (.iadd, 1) := by decide +kernel
theorem dX10_rule_72 : decode cX10_rule 72 = .ok (.putfield 158, 3) := by decide +kernel
theorem dX10_rule_75 : decode cX10_rule 75 = .ok (.aload_n 0, 1) := by decide +kernel
theorem dX10_rule_76 : decode cX10_rule 76 = .ok (.getfield 158, 3) := by decide +kernel
theorem dX10_rule_79 : decode cX10_rule 79 = .ok (.iconst 1, 1) := by decide +kernel
theorem dX10_rule_80 : decode cX10_rule 80 = .ok (.isub, 1) := by decide +kernel
theorem dX10_rule_81 : decode cX10_rule 81 = .ok (.ireturn, 1) := by decide +kernel
theorem dX10_fault_0 : decode cX10_fault 0 = .ok (.aload_n 0, 1) := by decide +kernel
theorem dX10_fault_1 : decode cX10_fault 1 = .ok (.getfield 168, 3) := by decide +kernel
theorem dX10_fault_4 : decode cX10_fault 4 = .ok (.ireturn, 1) := by decide +kernel
theorem dX10_ruleOf_0 : decode cX10_ruleOf 0 = .ok (.aload_n 0, 1) := by decide +kernel
theorem dX10_ruleOf_1 : decode cX10_ruleOf 1 = .ok (.iload_n 1, 1) := by decide +kernel
theorem dX10_ruleOf_2 : decode cX10_ruleOf 2 = .ok (.invokevirtual 174, 3) := by decide +kernel
theorem dX10_ruleOf_5 : decode cX10_ruleOf 5 = .ok (.ifCond .ne 5, 3) := by decide +kernel
theorem dX10_ruleOf_8 : decode cX10_ruleOf 8 = .ok (.iconst (-1), 1) := by decide +kernel
theorem dX10_ruleOf_9 : decode cX10_ruleOf 9 = .ok (.ireturn, 1) := by decide +kernel
theorem dX10_ruleOf_10 : decode cX10_ruleOf 10 = .ok (.aload_n 0, 1) := by decide +kernel
theorem dX10_ruleOf_11 : decode cX10_ruleOf 11 = .ok (.getfield 57, 3) := by decide +kernel
theorem dX10_ruleOf_14 : decode cX10_ruleOf 14 = .ok (.iload_n 1, 1) := by decide +kernel
theorem dX10_ruleOf_15 : decode cX10_ruleOf 15 = .ok (.aaload, 1) := by decide +kernel
theorem dX10_ruleOf_16 : decode cX10_ruleOf 16 = .ok (.astore_n 3, 1) := by decide +kernel
theorem dX10_ruleOf_17 : decode cX10_ruleOf 17 = .ok (.iload_n 2, 1) := by decide +kernel
theorem dX10_ruleOf_18 : decode cX10_ruleOf 18 = .ok (.aload_n 3, 1) := by decide +kernel
theorem dX10_ruleOf_19 : decode cX10_ruleOf 19 = .ok (.getfield 177, 3) := by decide +kernel
theorem dX10_ruleOf_22 : decode cX10_ruleOf 22 = .ok (.invokestatic 180, 3) := by decide +kernel
theorem dX10_ruleOf_25 : decode cX10_ruleOf 25 = .ok (.ifCond .eq 34, 3) := by decide +kernel
theorem dX10_ruleOf_28 : decode cX10_ruleOf 28 = .ok (.iload_n 2, 1) := by decide +kernel
theorem dX10_ruleOf_29 : decode cX10_ruleOf 29 = .ok (.bipush 10, 2) := by decide +kernel
theorem dX10_ruleOf_31 : decode cX10_ruleOf 31 = .ok (.isub, 1) := by decide +kernel
theorem dX10_ruleOf_32 : decode cX10_ruleOf 32 = .ok (.istore 4, 2) := by decide +kernel
theorem dX10_ruleOf_34 : decode cX10_ruleOf 34 = .ok (.aload_n 3, 1) := by decide +kernel
theorem dX10_ruleOf_35 : decode cX10_ruleOf 35 = .ok (.getfield 184, 3) := by decide +kernel
theorem dX10_ruleOf_38 : decode cX10_ruleOf 38 = .ok (.iload 4, 2) := by decide +kernel
theorem dX10_ruleOf_40 : decode cX10_ruleOf 40 = .ok (.iaload, 1) := by decide +kernel
theorem dX10_ruleOf_41 : decode cX10_ruleOf 41 = .ok (.aload_n 3, 1) := by decide +kernel
theorem dX10_ruleOf_42 : decode cX10_ruleOf 42 = .ok (.getfield 187, 3) := by decide +kernel
theorem dX10_ruleOf_45 : decode cX10_ruleOf 45 = .ok (.iload 4, 2) := by decide +kernel
theorem dX10_ruleOf_47 : decode cX10_ruleOf 47 = .ok (.baload, 1) := by decide +kernel
theorem dX10_ruleOf_48 : decode cX10_ruleOf 48 = .ok (.ifCond .eq 8, 3) := by decide +kernel
theorem dX10_ruleOf_51 : decode cX10_ruleOf 51 = .ok (.bipush 10, 2) := by decide +kernel
theorem dX10_ruleOf_53 : decode cX10_ruleOf 53 = .ok (.goto 4, 3) := by decide +kernel
theorem dX10_ruleOf_56 : decode cX10_ruleOf 56 = .ok (.iconst 0, 1) := by decide +kernel
theorem dX10_ruleOf_57 : decode cX10_ruleOf 57 = .ok (.iadd, 1) := by decide +kernel
theorem dX10_ruleOf_58 : decode cX10_ruleOf 58 = .ok (.ireturn, 1) := by decide +kernel
theorem dX10_ruleOf_59 : decode cX10_ruleOf 59 = .ok (.iload_n 2, 1) := by decide +kernel
theorem dX10_ruleOf_60 : decode cX10_ruleOf 60 = .ok (.tableswitch 51 0 2 #[28, 33, 38], 28) := by decide +kernel
theorem dX10_ruleOf_88 : decode cX10_ruleOf 88 = .ok (.aload_n 3, 1) := by decide +kernel
theorem dX10_ruleOf_89 : decode cX10_ruleOf 89 = .ok (.getfield 177, 3) := by decide +kernel
theorem dX10_ruleOf_92 : decode cX10_ruleOf 92 = .ok (.ireturn, 1) := by decide +kernel
theorem dX10_ruleOf_93 : decode cX10_ruleOf 93 = .ok (.aload_n 3, 1) := by decide +kernel
theorem dX10_ruleOf_94 : decode cX10_ruleOf 94 = .ok (.getfield 191, 3) := by decide +kernel
theorem dX10_ruleOf_97 : decode cX10_ruleOf 97 = .ok (.ireturn, 1) := by decide +kernel
theorem dX10_ruleOf_98 : decode cX10_ruleOf 98 = .ok (.aload_n 3, 1) := by decide +kernel
theorem dX10_ruleOf_99 : decode cX10_ruleOf 99 = .ok (.getfield 194, 3) := by decide +kernel
theorem dX10_ruleOf_102 : decode cX10_ruleOf 102 = .ok (.ifCond .eq 7, 3) := by decide +kernel
theorem dX10_ruleOf_105 : decode cX10_ruleOf 105 = .ok (.iconst 1, 1) := by decide +kernel
theorem dX10_ruleOf_106 : decode cX10_ruleOf 106 = .ok (.goto 4, 3) := by decide +kernel
theorem dX10_ruleOf_109 : decode cX10_ruleOf 109 = .ok (.iconst 0, 1) := by decide +kernel
theorem dX10_ruleOf_110 : decode cX10_ruleOf 110 = .ok (.ireturn, 1) := by decide +kernel
theorem dX10_ruleOf_111 : decode cX10_ruleOf 111 = .ok (.iconst (-1), 1) := by decide +kernel
theorem dX10_ruleOf_112 : decode cX10_ruleOf 112 = .ok (.ireturn, 1) := by decide +kernel
theorem dX10_run_0 : decode cX10_run 0 = .ok (.aload_n 0, 1) := by decide +kernel
theorem dX10_run_1 : decode cX10_run 1 = .ok (.iload_n 1, 1) := by decide +kernel
theorem dX10_run_2 : decode cX10_run 2 = .ok (.invokevirtual 174, 3) := by decide +kernel
theorem dX10_run_5 : decode cX10_run 5 = .ok (.ifCond .eq 26, 3) := by decide +kernel
theorem dX10_run_8 : decode cX10_run 8 = .ok (.iload_n 2, 1) := by decide +kernel
theorem dX10_run_9 : decode cX10_run 9 = .ok (.iconst 0, 1) := by decide +kernel
theorem dX10_run_10 : decode cX10_run 10 = .ok (.iconst 3, 1) := by decide +kernel
theorem dX10_run_11 : decode cX10_run 11 = .ok (.invokestatic 76, 3) := by decide +kernel
theorem dX10_run_14 : decode cX10_run 14 = .ok (.ifCond .ne 19, 3) := by decide +kernel
theorem dX10_run_17 : decode cX10_run 17 = .ok (.iload_n 2, 1) := by decide +kernel
theorem dX10_run_18 : decode cX10_run 18 = .ok (.aload_n 0, 1) := by decide +kernel
theorem dX10_run_19 : decode cX10_run 19 = .ok (.getfield 10, 3) := by decide +kernel
theorem dX10_run_22 : decode cX10_run 22 = .ok (.getfield 95, 3) := by decide +kernel
theorem dX10_run_25 : decode cX10_run 25 = .ok (.invokestatic 180, 3) := by decide +kernel
theorem dX10_run_28 : decode cX10_run 28 = .ok (.ifCond .ne 5, 3) := by decide +kernel
theorem dX10_run_31 : decode cX10_run 31 = .ok (.iconst (-1), 1) := by decide +kernel
theorem dX10_run_32 : decode cX10_run 32 = .ok (.ireturn, 1) := by decide +kernel
theorem dX10_run_33 : decode cX10_run 33 = .ok (.aload_n 0, 1) := by decide +kernel
theorem dX10_run_34 : decode cX10_run 34 = .ok (.getfield 25, 3) := by decide +kernel
theorem dX10_run_37 : decode cX10_run 37 = .ok (.aload_n 0, 1) := by decide +kernel
theorem dX10_run_38 : decode cX10_run 38 = .ok (.getfield 57, 3) := by decide +kernel
theorem dX10_run_41 : decode cX10_run 41 = .ok (.iload_n 1, 1) := by decide +kernel
theorem dX10_run_42 : decode cX10_run 42 = .ok (.aaload, 1) := by decide +kernel
theorem dX10_run_43 : decode cX10_run 43 = .ok (.invokevirtual 198, 3) := by decide +kernel
theorem dX10_run_46 : decode cX10_run 46 = .ok (.iload_n 2, 1) := by decide +kernel
theorem dX10_run_47 : decode cX10_run 47 = .ok (.tableswitch 61 0 3 #[29, 37, 45, 53], 29) := by decide +kernel
theorem dX10_run_76 : decode cX10_run 76 = .ok (.aload_n 0, 1) := by decide +kernel
theorem dX10_run_77 : decode cX10_run 77 = .ok (.getfield 25, 3) := by decide +kernel
theorem dX10_run_80 : decode cX10_run 80 = .ok (.invokevirtual 201, 3) := by decide +kernel
theorem dX10_run_83 : decode cX10_run 83 = .ok (.ireturn, 1) := by decide +kernel
theorem dX10_run_84 : decode cX10_run 84 = .ok (.aload_n 0, 1) := by decide +kernel
theorem dX10_run_85 : decode cX10_run 85 = .ok (.getfield 25, 3) := by decide +kernel
theorem dX10_run_88 : decode cX10_run 88 = .ok (.invokevirtual 204, 3) := by decide +kernel
theorem dX10_run_91 : decode cX10_run 91 = .ok (.ireturn, 1) := by decide +kernel
theorem dX10_run_92 : decode cX10_run 92 = .ok (.aload_n 0, 1) := by decide +kernel
theorem dX10_run_93 : decode cX10_run 93 = .ok (.getfield 25, 3) := by decide +kernel
theorem dX10_run_96 : decode cX10_run 96 = .ok (.invokevirtual 207, 3) := by decide +kernel
theorem dX10_run_99 : decode cX10_run 99 = .ok (.ireturn, 1) := by decide +kernel
theorem dX10_run_100 : decode cX10_run 100 = .ok (.aload_n 0, 1) := by decide +kernel
theorem dX10_run_101 : decode cX10_run 101 = .ok (.getfield 25, 3) := by decide +kernel
theorem dX10_run_104 : decode cX10_run 104 = .ok (.getfield 210, 3) := by decide +kernel
theorem dX10_run_107 : decode cX10_run 107 = .ok (.ireturn, 1) := by decide +kernel
theorem dX10_run_108 : decode cX10_run 108 = .ok (.aload_n 0, 1) := by decide +kernel
theorem dX10_run_109 : decode cX10_run 109 = .ok (.getfield 25, 3) := by decide +kernel
theorem dX10_run_112 : decode cX10_run 112 = .ok (.getfield 213, 3) := by decide +kernel
theorem dX10_run_115 : decode cX10_run 115 = .ok (.iload_n 2, 1) := by decide +kernel
theorem dX10_run_116 : decode cX10_run 116 = .ok (.bipush 10, 2) := by decide +kernel
theorem dX10_run_118 : decode cX10_run 118 = .ok (.isub, 1) := by decide +kernel
theorem dX10_run_119 : decode cX10_run 119 = .ok (.iaload, 1) := by decide +kernel
theorem dX10_run_120 : decode cX10_run 120 = .ok (.ireturn, 1) := by decide +kernel
theorem dX10_runBy_0 : decode cX10_runBy 0 = .ok (.aload_n 0, 1) := by decide +kernel
theorem dX10_runBy_1 : decode cX10_runBy 1 = .ok (.iload_n 1, 1) := by decide +kernel
theorem dX10_runBy_2 : decode cX10_runBy 2 = .ok (.invokevirtual 174, 3) := by decide +kernel
theorem dX10_runBy_5 : decode cX10_runBy 5 = .ok (.ifCond .eq 11, 3) := by decide +kernel
theorem dX10_runBy_8 : decode cX10_runBy 8 = .ok (.aload_n 0, 1) := by decide +kernel
theorem dX10_runBy_9 : decode cX10_runBy 9 = .ok (.iload_n 2, 1) := by decide +kernel
theorem dX10_runBy_10 : decode cX10_runBy 10 = .ok (.invokevirtual 216, 3) := by decide +kernel
theorem dX10_runBy_13 : decode cX10_runBy 13 = .ok (.ifCond .ne 5, 3) := by decide +kernel
theorem dX10_runBy_16 : decode cX10_runBy 16 = .ok (.iconst (-1), 1) := by decide +kernel
theorem dX10_runBy_17 : decode cX10_runBy 17 = .ok (.ireturn, 1) := by decide +kernel
theorem dX10_runBy_18 : decode cX10_runBy 18 = .ok (.aload_n 0, 1) := by decide +kernel
theorem dX10_runBy_19 : decode cX10_runBy 19 = .ok (.getfield 25, 3) := by decide +kernel
theorem dX10_runBy_22 : decode cX10_runBy 22 = .ok (.invokevirtual 219, 3) := by decide +kernel
theorem dX10_runBy_25 : decode cX10_runBy 25 = .ok (.iconst 0, 1) := by decide +kernel
theorem dX10_runBy_26 : decode cX10_runBy 26 = .ok (.istore_n 3, 1) := by decide +kernel
theorem dX10_runBy_27 : decode cX10_runBy 27 = .ok (.iload_n 3, 1) := by decide +kernel
theorem dX10_runBy_28 : decode cX10_runBy 28 = .ok (.aload_n 0, 1) := by decide +kernel
theorem dX10_runBy_29 : decode cX10_runBy 29 = .ok (.getfield 10, 3) := by decide +kernel
theorem dX10_runBy_32 : decode cX10_runBy 32 = .ok (.getfield 95, 3) := by decide +kernel
theorem dX10_runBy_35 : decode cX10_runBy 35 = .ok (.if_icmp .ge 29, 3) := by decide +kernel
theorem dX10_runBy_38 : decode cX10_runBy 38 = .ok (.aload_n 0, 1) := by decide +kernel
theorem dX10_runBy_39 : decode cX10_runBy 39 = .ok (.getfield 25, 3) := by decide +kernel
theorem dX10_runBy_42 : decode cX10_runBy 42 = .ok (.aload_n 0, 1) := by decide +kernel
theorem dX10_runBy_43 : decode cX10_runBy 43 = .ok (.getfield 67, 3) := by decide +kernel
theorem dX10_runBy_46 : decode cX10_runBy 46 = .ok (.iload_n 3, 1) := by decide +kernel
theorem dX10_runBy_47 : decode cX10_runBy 47 = .ok (.iaload, 1) := by decide +kernel
theorem dX10_runBy_48 : decode cX10_runBy 48 = .ok (.aload_n 0, 1) := by decide +kernel
theorem dX10_runBy_49 : decode cX10_runBy 49 = .ok (.getfield 57, 3) := by decide +kernel
theorem dX10_runBy_52 : decode cX10_runBy 52 = .ok (.iload_n 1, 1) := by decide +kernel
theorem dX10_runBy_53 : decode cX10_runBy 53 = .ok (.aaload, 1) := by decide +kernel
theorem dX10_runBy_54 : decode cX10_runBy 54 = .ok (.invokevirtual 222, 3) := by decide +kernel
theorem dX10_runBy_57 : decode cX10_runBy 57 = .ok (.pop, 1) := by decide +kernel
theorem dX10_runBy_58 : decode cX10_runBy 58 = .ok (.iinc 3 1, 3) := by decide +kernel
theorem dX10_runBy_61 : decode cX10_runBy 61 = .ok (.goto (-34), 3) := by decide +kernel
theorem dX10_runBy_64 : decode cX10_runBy 64 = .ok (.aload_n 0, 1) := by decide +kernel
theorem dX10_runBy_65 : decode cX10_runBy 65 = .ok (.getfield 25, 3) := by decide +kernel
theorem dX10_runBy_68 : decode cX10_runBy 68 = .ok (.invokevirtual 201, 3) := by decide +kernel
theorem dX10_runBy_71 : decode cX10_runBy 71 = .ok (.ireturn, 1) := by decide +kernel
theorem dX10_best_0 : decode cX10_best 0 = .ok (.aload_n 0, 1) := by decide +kernel
theorem dX10_best_1 : decode cX10_best 1 = .ok (.getfield 37, 3) := by decide +kernel
theorem dX10_best_4 : decode cX10_best 4 = .ok (.aload_n 0, 1) := by decide +kernel
theorem dX10_best_5 : decode cX10_best 5 = .ok (.getfield 10, 3) := by decide +kernel
theorem dX10_best_8 : decode cX10_best 8 = .ok (.invokevirtual 226, 3) := by decide +kernel
theorem dX10_best_11 : decode cX10_best 11 = .ok (.aload_n 0, 1) := by decide +kernel
theorem dX10_best_12 : decode cX10_best 12 = .ok (.getfield 37, 3) := by decide +kernel
theorem dX10_best_15 : decode cX10_best 15 = .ok (.getfield 229, 3) := by decide +kernel
theorem dX10_best_18 : decode cX10_best 18 = .ok (.ireturn, 1) := by decide +kernel
theorem dX10_bestOf_0 : decode cX10_bestOf 0 = .ok (.aload_n 0, 1) := by decide +kernel
theorem dX10_bestOf_1 : decode cX10_bestOf 1 = .ok (.iload_n 1, 1) := by decide +kernel
theorem dX10_bestOf_2 : decode cX10_bestOf 2 = .ok (.invokevirtual 101, 3) := by decide +kernel
theorem dX10_bestOf_5 : decode cX10_bestOf 5 = .ok (.ifCond .ne 5, 3) := by decide +kernel
theorem dX10_bestOf_8 : decode cX10_bestOf 8 = .ok (.iconst (-1), 1) := by decide +kernel
theorem dX10_bestOf_9 : decode cX10_bestOf 9 = .ok (.ireturn, 1) := by decide +kernel
theorem dX10_bestOf_10 : decode cX10_bestOf 10 = .ok (.aload_n 0, 1) := by decide +kernel
theorem dX10_bestOf_11 : decode cX10_bestOf 11 = .ok (.getfield 37, 3) := by decide +kernel
theorem dX10_bestOf_14 : decode cX10_bestOf 14 = .ok (.aload_n 0, 1) := by decide +kernel
theorem dX10_bestOf_15 : decode cX10_bestOf 15 = .ok (.getfield 10, 3) := by decide +kernel
theorem dX10_bestOf_18 : decode cX10_bestOf 18 = .ok (.invokevirtual 226, 3) := by decide +kernel
theorem dX10_bestOf_21 : decode cX10_bestOf 21 = .ok (.aload_n 0, 1) := by decide +kernel
theorem dX10_bestOf_22 : decode cX10_bestOf 22 = .ok (.getfield 37, 3) := by decide +kernel
theorem dX10_bestOf_25 : decode cX10_bestOf 25 = .ok (.getfield 232, 3) := by decide +kernel
theorem dX10_bestOf_28 : decode cX10_bestOf 28 = .ok (.iload_n 1, 1) := by decide +kernel
theorem dX10_bestOf_29 : decode cX10_bestOf 29 = .ok (.iaload, 1) := by decide +kernel
theorem dX10_bestOf_30 : decode cX10_bestOf 30 = .ok (.ireturn, 1) := by decide +kernel
theorem dX10_price_0 : decode cX10_price 0 = .ok (.aload_n 0, 1) := by decide +kernel
theorem dX10_price_1 : decode cX10_price 1 = .ok (.iload_n 1, 1) := by decide +kernel
theorem dX10_price_2 : decode cX10_price 2 = .ok (.invokevirtual 105, 3) := by decide +kernel
theorem dX10_price_5 : decode cX10_price 5 = .ok (.ifCond .ne 5, 3) := by decide +kernel
theorem dX10_price_8 : decode cX10_price 8 = .ok (.iconst (-1), 1) := by decide +kernel
theorem dX10_price_9 : decode cX10_price 9 = .ok (.ireturn, 1) := by decide +kernel
theorem dX10_price_10 : decode cX10_price 10 = .ok (.aload_n 0, 1) := by decide +kernel
theorem dX10_price_11 : decode cX10_price 11 = .ok (.getfield 37, 3) := by decide +kernel
theorem dX10_price_14 : decode cX10_price 14 = .ok (.aload_n 0, 1) := by decide +kernel
theorem dX10_price_15 : decode cX10_price 15 = .ok (.getfield 10, 3) := by decide +kernel
theorem dX10_price_18 : decode cX10_price 18 = .ok (.invokevirtual 226, 3) := by decide +kernel
theorem dX10_price_21 : decode cX10_price 21 = .ok (.aload_n 0, 1) := by decide +kernel
theorem dX10_price_22 : decode cX10_price 22 = .ok (.getfield 37, 3) := by decide +kernel
theorem dX10_price_25 : decode cX10_price 25 = .ok (.aload_n 0, 1) := by decide +kernel
theorem dX10_price_26 : decode cX10_price 26 = .ok (.getfield 10, 3) := by decide +kernel
theorem dX10_price_29 : decode cX10_price 29 = .ok (.iload_n 1, 1) := by decide +kernel
theorem dX10_price_30 : decode cX10_price 30 = .ok (.invokevirtual 235, 3) := by decide +kernel
theorem dX10_price_33 : decode cX10_price 33 = .ok (.aload_n 0, 1) := by decide +kernel
theorem dX10_price_34 : decode cX10_price 34 = .ok (.getfield 37, 3) := by decide +kernel
theorem dX10_price_37 : decode cX10_price 37 = .ok (.getfield 229, 3) := by decide +kernel
theorem dX10_price_40 : decode cX10_price 40 = .ok (.isub, 1) := by decide +kernel
theorem dX10_price_41 : decode cX10_price 41 = .ok (.ireturn, 1) := by decide +kernel
theorem dX10_cover_0 : decode cX10_cover 0 = .ok (.aload_n 0, 1) := by decide +kernel
theorem dX10_cover_1 : decode cX10_cover 1 = .ok (.lload_n 1, 1) := by decide +kernel
theorem dX10_cover_2 : decode cX10_cover 2 = .ok (.invokevirtual 239, 3) := by decide +kernel
theorem dX10_cover_5 : decode cX10_cover 5 = .ok (.ifCond .ne 5, 3) := by decide +kernel
theorem dX10_cover_8 : decode cX10_cover 8 = .ok (.iconst (-1), 1) := by decide +kernel
theorem dX10_cover_9 : decode cX10_cover 9 = .ok (.ireturn, 1) := by decide +kernel
theorem dX10_cover_10 : decode cX10_cover 10 = .ok (.iconst 0, 1) := by decide +kernel
theorem dX10_cover_11 : decode cX10_cover 11 = .ok (.istore_n 3, 1) := by decide +kernel
theorem dX10_cover_12 : decode cX10_cover 12 = .ok (.iconst 0, 1) := by decide +kernel
theorem dX10_cover_13 : decode cX10_cover 13 = .ok (.istore 4, 2) := by decide +kernel
theorem dX10_cover_15 : decode cX10_cover 15 = .ok (.iload 4, 2) := by decide +kernel
theorem dX10_cover_17 : decode cX10_cover 17 = .ok (.aload_n 0, 1) := by decide +kernel
theorem dX10_cover_18 : decode cX10_cover 18 = .ok (.getfield 10, 3) := by decide +kernel
theorem dX10_cover_21 : decode cX10_cover 21 = .ok (.getfield 84, 3) := by decide +kernel
theorem dX10_cover_24 : decode cX10_cover 24 = .ok (.if_icmp .ge 30, 3) := by decide +kernel
theorem dX10_cover_27 : decode cX10_cover 27 = .ok (.iload_n 3, 1) := by decide +kernel
theorem dX10_cover_28 : decode cX10_cover 28 = .ok (.aload_n 0, 1) := by decide +kernel
theorem dX10_cover_29 : decode cX10_cover 29 = .ok (.getfield 10, 3) := by decide +kernel
theorem dX10_cover_32 : decode cX10_cover 32 = .ok (.getfield 132, 3) := by decide +kernel
theorem dX10_cover_35 : decode cX10_cover 35 = .ok (.iload 4, 2) := by decide +kernel
theorem dX10_cover_37 : decode cX10_cover 37 = .ok (.iaload, 1) := by decide +kernel
theorem dX10_cover_38 : decode cX10_cover 38 = .ok (.aload_n 0, 1) := by decide +kernel
theorem dX10_cover_39 : decode cX10_cover 39 = .ok (.getfield 71, 3) := by decide +kernel
theorem dX10_cover_42 : decode cX10_cover 42 = .ok (.iload 4, 2) := by decide +kernel
theorem dX10_cover_44 : decode cX10_cover 44 = .ok (.iaload, 1) := by decide +kernel
theorem dX10_cover_45 : decode cX10_cover 45 = .ok (.imul, 1) := by decide +kernel
theorem dX10_cover_46 : decode cX10_cover 46 = .ok (.iadd, 1) := by decide +kernel
theorem dX10_cover_47 : decode cX10_cover 47 = .ok (.istore_n 3, 1) := by decide +kernel
theorem dX10_cover_48 : decode cX10_cover 48 = .ok (.iinc 4 1, 3) := by decide +kernel
theorem dX10_cover_51 : decode cX10_cover 51 = .ok (.goto (-36), 3) := by decide +kernel
theorem dX10_cover_54 : decode cX10_cover 54 = .ok (.iconst 0, 1) := by decide +kernel
theorem dX10_cover_55 : decode cX10_cover 55 = .ok (.istore 4, 2) := by decide +kernel
theorem dX10_cover_57 : decode cX10_cover 57 = .ok (.iload 4, 2) := by decide +kernel
theorem dX10_cover_59 : decode cX10_cover 59 = .ok (.aload_n 0, 1) := by decide +kernel
theorem dX10_cover_60 : decode cX10_cover 60 = .ok (.getfield 10, 3) := by decide +kernel
theorem dX10_cover_63 : decode cX10_cover 63 = .ok (.getfield 95, 3) := by decide +kernel
theorem dX10_cover_66 : decode cX10_cover 66 = .ok (.if_icmp .ge 25, 3) := by decide +kernel
theorem dX10_cover_69 : decode cX10_cover 69 = .ok (.iload_n 3, 1) := by decide +kernel
theorem dX10_cover_70 : decode cX10_cover 70 = .ok (.aload_n 0, 1) := by decide +kernel
theorem dX10_cover_71 : decode cX10_cover 71 = .ok (.getfield 10, 3) := by decide +kernel
theorem dX10_cover_74 : decode cX10_cover 74 = .ok (.iload 4, 2) := by decide +kernel
theorem dX10_cover_76 : decode cX10_cover 76 = .ok (.aload_n 0, 1) := by decide +kernel
theorem dX10_cover_77 : decode cX10_cover 77 = .ok (.getfield 71, 3) := by decide +kernel
theorem dX10_cover_80 : decode cX10_cover 80 = .ok (.invokevirtual 243, 3) := by decide +kernel
theorem dX10_cover_83 : decode cX10_cover 83 = .ok (.iadd, 1) := by decide +kernel
theorem dX10_cover_84 : decode cX10_cover 84 = .ok (.istore_n 3, 1) := by decide +kernel
theorem dX10_cover_85 : decode cX10_cover 85 = .ok (.iinc 4 1, 3) := by decide +kernel
theorem dX10_cover_88 : decode cX10_cover 88 = .ok (.goto (-31), 3) := by decide +kernel
theorem dX10_cover_91 : decode cX10_cover 91 = .ok (.iload_n 3, 1) := by decide +kernel
theorem dX10_cover_92 : decode cX10_cover 92 = .ok (.ireturn, 1) := by decide +kernel
theorem dX10_share_0 : decode cX10_share 0 = .ok (.aload_n 0, 1) := by decide +kernel
theorem dX10_share_1 : decode cX10_share 1 = .ok (.iload_n 1, 1) := by decide +kernel
theorem dX10_share_2 : decode cX10_share 2 = .ok (.invokevirtual 174, 3) := by decide +kernel
theorem dX10_share_5 : decode cX10_share 5 = .ok (.ifCond .eq 23, 3) := by decide +kernel
theorem dX10_share_8 : decode cX10_share 8 = .ok (.iload_n 2, 1) := by decide +kernel
theorem dX10_share_9 : decode cX10_share 9 = .ok (.iconst 0, 1) := by decide +kernel
theorem dX10_share_10 : decode cX10_share 10 = .ok (.bipush 99, 2) := by decide +kernel
theorem dX10_share_12 : decode cX10_share 12 = .ok (.invokestatic 76, 3) := by decide +kernel
theorem dX10_share_15 : decode cX10_share 15 = .ok (.ifCond .eq 13, 3) := by decide +kernel
theorem dX10_share_18 : decode cX10_share 18 = .ok (.iload_n 3, 1) := by decide +kernel
theorem dX10_share_19 : decode cX10_share 19 = .ok (.iconst 1, 1) := by decide +kernel
theorem dX10_share_20 : decode cX10_share 20 = .ok (.bipush 99, 2) := by decide +kernel
theorem dX10_share_22 : decode cX10_share 22 = .ok (.invokestatic 76, 3) := by decide +kernel
theorem dX10_share_25 : decode cX10_share 25 = .ok (.ifCond .ne 5, 3) := by decide +kernel
theorem dX10_share_28 : decode cX10_share 28 = .ok (.iconst (-1), 1) := by decide +kernel
theorem dX10_share_29 : decode cX10_share 29 = .ok (.ireturn, 1) := by decide +kernel
theorem dX10_share_30 : decode cX10_share 30 = .ok (.aload_n 0, 1) := by decide +kernel
theorem dX10_share_31 : decode cX10_share 31 = .ok (.getfield 25, 3) := by decide +kernel
theorem dX10_share_34 : decode cX10_share 34 = .ok (.aload_n 0, 1) := by decide +kernel
theorem dX10_share_35 : decode cX10_share 35 = .ok (.getfield 57, 3) := by decide +kernel
theorem dX10_share_38 : decode cX10_share 38 = .ok (.iload_n 1, 1) := by decide +kernel
theorem dX10_share_39 : decode cX10_share 39 = .ok (.aaload, 1) := by decide +kernel
theorem dX10_share_40 : decode cX10_share 40 = .ok (.invokevirtual 198, 3) := by decide +kernel
theorem dX10_share_43 : decode cX10_share 43 = .ok (.aload_n 0, 1) := by decide +kernel
theorem dX10_share_44 : decode cX10_share 44 = .ok (.getfield 37, 3) := by decide +kernel
theorem dX10_share_47 : decode cX10_share 47 = .ok (.aload_n 0, 1) := by decide +kernel
theorem dX10_share_48 : decode cX10_share 48 = .ok (.getfield 10, 3) := by decide +kernel
theorem dX10_share_51 : decode cX10_share 51 = .ok (.invokevirtual 226, 3) := by decide +kernel
theorem dX10_share_54 : decode cX10_share 54 = .ok (.aload_n 0, 1) := by decide +kernel
theorem dX10_share_55 : decode cX10_share 55 = .ok (.getfield 25, 3) := by decide +kernel
theorem dX10_share_58 : decode cX10_share 58 = .ok (.invokevirtual 204, 3) := by decide +kernel
theorem dX10_share_61 : decode cX10_share 61 = .ok (.iload_n 3, 1) := by decide +kernel
theorem dX10_share_62 : decode cX10_share 62 = .ok (.imul, 1) := by decide +kernel
theorem dX10_share_63 : decode cX10_share 63 = .ok (.iload_n 2, 1) := by decide +kernel
theorem dX10_share_64 : decode cX10_share 64 = .ok (.aload_n 0, 1) := by decide +kernel
theorem dX10_share_65 : decode cX10_share 65 = .ok (.getfield 37, 3) := by decide +kernel
theorem dX10_share_68 : decode cX10_share 68 = .ok (.getfield 229, 3) := by decide +kernel
theorem dX10_share_71 : decode cX10_share 71 = .ok (.imul, 1) := by decide +kernel
theorem dX10_share_72 : decode cX10_share 72 = .ok (.if_icmp .lt 7, 3) := by decide +kernel
theorem dX10_share_75 : decode cX10_share 75 = .ok (.iconst 1, 1) := by decide +kernel
theorem dX10_share_76 : decode cX10_share 76 = .ok (.goto 4, 3) := by decide +kernel
theorem dX10_share_79 : decode cX10_share 79 = .ok (.iconst 0, 1) := by decide +kernel
theorem dX10_share_80 : decode cX10_share 80 = .ok (.ireturn, 1) := by decide +kernel
theorem dX10_mean_0 : decode cX10_mean 0 = .ok (.aload_n 0, 1) := by decide +kernel
theorem dX10_mean_1 : decode cX10_mean 1 = .ok (.iload_n 1, 1) := by decide +kernel
theorem dX10_mean_2 : decode cX10_mean 2 = .ok (.invokevirtual 174, 3) := by decide +kernel
theorem dX10_mean_5 : decode cX10_mean 5 = .ok (.ifCond .eq 12, 3) := by decide +kernel
theorem dX10_mean_8 : decode cX10_mean 8 = .ok (.iload_n 2, 1) := by decide +kernel
theorem dX10_mean_9 : decode cX10_mean 9 = .ok (.iconst 0, 1) := by decide +kernel
theorem dX10_mean_10 : decode cX10_mean 10 = .ok (.iconst 1, 1) := by decide +kernel
theorem dX10_mean_11 : decode cX10_mean 11 = .ok (.invokestatic 76, 3) := by decide +kernel
theorem dX10_mean_14 : decode cX10_mean 14 = .ok (.ifCond .ne 7, 3) := by decide +kernel
theorem dX10_mean_17 : decode cX10_mean 17 = .ok (.ldc2_w 247, 3) := by decide +kernel
theorem dX10_mean_20 : decode cX10_mean 20 = .ok (.lreturn, 1) := by decide +kernel
theorem dX10_mean_21 : decode cX10_mean 21 = .ok (.aload_n 0, 1) := by decide +kernel
theorem dX10_mean_22 : decode cX10_mean 22 = .ok (.getfield 10, 3) := by decide +kernel
theorem dX10_mean_25 : decode cX10_mean 25 = .ok (.getfield 95, 3) := by decide +kernel
theorem dX10_mean_28 : decode cX10_mean 28 = .ok (.bipush 6, 2) := by decide +kernel
theorem dX10_mean_30 : decode cX10_mean 30 = .ok (.if_icmp .le 7, 3) := by decide +kernel
theorem dX10_mean_33 : decode cX10_mean 33 = .ok (.ldc2_w 249, 3) := by decide +kernel
theorem dX10_mean_36 : decode cX10_mean 36 = .ok (.lreturn, 1) := by decide +kernel
theorem dX10_mean_37 : decode cX10_mean 37 = .ok (.aload_n 0, 1) := by decide +kernel
theorem dX10_mean_38 : decode cX10_mean 38 = .ok (.aload_n 0, 1) := by decide +kernel
theorem dX10_mean_39 : decode cX10_mean 39 = .ok (.getfield 57, 3) := by decide +kernel
theorem dX10_mean_42 : decode cX10_mean 42 = .ok (.iload_n 1, 1) := by decide +kernel
theorem dX10_mean_43 : decode cX10_mean 43 = .ok (.aaload, 1) := by decide +kernel
theorem dX10_mean_44 : decode cX10_mean 44 = .ok (.invokevirtual 251, 3) := by decide +kernel
theorem dX10_mean_47 : decode cX10_mean 47 = .ok (.astore_n 3, 1) := by decide +kernel
theorem dX10_mean_48 : decode cX10_mean 48 = .ok (.aload_n 3, 1) := by decide +kernel
theorem dX10_mean_49 : decode cX10_mean 49 = .ok (.getfield 255, 3) := by decide +kernel
theorem dX10_mean_52 : decode cX10_mean 52 = .ok (.aload_n 3, 1) := by decide +kernel
theorem dX10_mean_53 : decode cX10_mean 53 = .ok (.getfield 260, 3) := by decide +kernel
theorem dX10_mean_56 : decode cX10_mean 56 = .ok (.iload_n 2, 1) := by decide +kernel
theorem dX10_mean_57 : decode cX10_mean 57 = .ok (.invokestatic 263, 3) := by decide +kernel
theorem dX10_mean_60 : decode cX10_mean 60 = .ok (.lreturn, 1) := by decide +kernel
theorem dX10_ends_0 : decode cX10_ends 0 = .ok (.aload_n 0, 1) := by decide +kernel
theorem dX10_ends_1 : decode cX10_ends 1 = .ok (.iload_n 1, 1) := by decide +kernel
theorem dX10_ends_2 : decode cX10_ends 2 = .ok (.invokevirtual 174, 3) := by decide +kernel
theorem dX10_ends_5 : decode cX10_ends 5 = .ok (.ifCond .eq 12, 3) := by decide +kernel
theorem dX10_ends_8 : decode cX10_ends 8 = .ok (.iload_n 2, 1) := by decide +kernel
theorem dX10_ends_9 : decode cX10_ends 9 = .ok (.iconst 0, 1) := by decide +kernel
theorem dX10_ends_10 : decode cX10_ends 10 = .ok (.iconst 1, 1) := by decide +kernel
theorem dX10_ends_11 : decode cX10_ends 11 = .ok (.invokestatic 76, 3) := by decide +kernel
theorem dX10_ends_14 : decode cX10_ends 14 = .ok (.ifCond .ne 5, 3) := by decide +kernel
theorem dX10_ends_17 : decode cX10_ends 17 = .ok (.iconst (-1), 1) := by decide +kernel
theorem dX10_ends_18 : decode cX10_ends 18 = .ok (.ireturn, 1) := by decide +kernel
theorem dX10_ends_19 : decode cX10_ends 19 = .ok (.aload_n 0, 1) := by decide +kernel
theorem dX10_ends_20 : decode cX10_ends 20 = .ok (.getfield 10, 3) := by decide +kernel
theorem dX10_ends_23 : decode cX10_ends 23 = .ok (.getfield 95, 3) := by decide +kernel
theorem dX10_ends_26 : decode cX10_ends 26 = .ok (.bipush 6, 2) := by decide +kernel
theorem dX10_ends_28 : decode cX10_ends 28 = .ok (.if_icmp .le 6, 3) := by decide +kernel
theorem dX10_ends_31 : decode cX10_ends 31 = .ok (.bipush (-2), 2) := by decide +kernel
theorem dX10_ends_33 : decode cX10_ends 33 = .ok (.ireturn, 1) := by decide +kernel
theorem dX10_ends_34 : decode cX10_ends 34 = .ok (.aload_n 0, 1) := by decide +kernel
theorem dX10_ends_35 : decode cX10_ends 35 = .ok (.aload_n 0, 1) := by decide +kernel
theorem dX10_ends_36 : decode cX10_ends 36 = .ok (.getfield 57, 3) := by decide +kernel
theorem dX10_ends_39 : decode cX10_ends 39 = .ok (.iload_n 1, 1) := by decide +kernel
theorem dX10_ends_40 : decode cX10_ends 40 = .ok (.aaload, 1) := by decide +kernel
theorem dX10_ends_41 : decode cX10_ends 41 = .ok (.invokevirtual 251, 3) := by decide +kernel
theorem dX10_ends_44 : decode cX10_ends 44 = .ok (.astore_n 3, 1) := by decide +kernel
theorem dX10_ends_45 : decode cX10_ends 45 = .ok (.iload_n 2, 1) := by decide +kernel
theorem dX10_ends_46 : decode cX10_ends 46 = .ok (.ifCond .ne 10, 3) := by decide +kernel
theorem dX10_ends_49 : decode cX10_ends 49 = .ok (.aload_n 3, 1) := by decide +kernel
theorem dX10_ends_50 : decode cX10_ends 50 = .ok (.getfield 267, 3) := by decide +kernel
theorem dX10_ends_53 : decode cX10_ends 53 = .ok (.goto 7, 3) := by decide +kernel
theorem dX10_ends_56 : decode cX10_ends 56 = .ok (.aload_n 3, 1) := by decide +kernel
theorem dX10_ends_57 : decode cX10_ends 57 = .ok (.getfield 270, 3) := by decide +kernel
theorem dX10_ends_60 : decode cX10_ends 60 = .ok (.ireturn, 1) := by decide +kernel
theorem dX10_meanOfRanks_0 : decode cX10_meanOfRanks 0 = .ok (.aload_n 0, 1) := by decide +kernel
theorem dX10_meanOfRanks_1 : decode cX10_meanOfRanks 1 = .ok (.iload_n 1, 1) := by decide +kernel
theorem dX10_meanOfRanks_2 : decode cX10_meanOfRanks 2 = .ok (.invokevirtual 174, 3) := by decide +kernel
theorem dX10_meanOfRanks_5 : decode cX10_meanOfRanks 5 = .ok (.ifCond .eq 12, 3) := by decide +kernel
theorem dX10_meanOfRanks_8 : decode cX10_meanOfRanks 8 = .ok (.iload_n 2, 1) := by decide +kernel
theorem dX10_meanOfRanks_9 : decode cX10_meanOfRanks 9 = .ok (.iconst 0, 1) := by decide +kernel
theorem dX10_meanOfRanks_10 : decode cX10_meanOfRanks 10 = .ok (.iconst 1, 1) := by decide +kernel
theorem dX10_meanOfRanks_11 : decode cX10_meanOfRanks 11 = .ok (.invokestatic 76, 3) := by decide +kernel
theorem dX10_meanOfRanks_14 : decode cX10_meanOfRanks 14 = .ok (.ifCond .ne 7, 3) := by decide +kernel
theorem dX10_meanOfRanks_17 : decode cX10_meanOfRanks 17 = .ok (.ldc2_w 247, 3) := by decide +kernel
theorem dX10_meanOfRanks_20 : decode cX10_meanOfRanks 20 = .ok (.lreturn, 1) := by decide +kernel
theorem dX10_meanOfRanks_21 : decode cX10_meanOfRanks 21 = .ok (.aload_n 0, 1) := by decide +kernel
theorem dX10_meanOfRanks_22 : decode cX10_meanOfRanks 22 = .ok (.getfield 57, 3) := by decide +kernel
theorem dX10_meanOfRanks_25 : decode cX10_meanOfRanks 25 = .ok (.iload_n 1, 1) := by decide +kernel
theorem dX10_meanOfRanks_26 : decode cX10_meanOfRanks 26 = .ok (.aaload, 1) := by decide +kernel
theorem dX10_meanOfRanks_27 : decode cX10_meanOfRanks 27 = .ok (.getfield 272, 3) := by decide +kernel
theorem dX10_meanOfRanks_30 : decode cX10_meanOfRanks 30 = .ok (.astore_n 3, 1) := by decide +kernel
theorem dX10_meanOfRanks_31 : decode cX10_meanOfRanks 31 = .ok (.aload_n 3, 1) := by decide +kernel
theorem dX10_meanOfRanks_32 : decode cX10_meanOfRanks 32 = .ok (.aload_n 0, 1) := by decide +kernel
theorem dX10_meanOfRanks_33 : decode cX10_meanOfRanks 33 = .ok (.getfield 10, 3) := by decide +kernel
theorem dX10_meanOfRanks_36 : decode cX10_meanOfRanks 36 = .ok (.getfield 276, 3) := by decide +kernel
theorem dX10_meanOfRanks_39 : decode cX10_meanOfRanks 39 = .ok (.invokevirtual 279, 3) := by decide +kernel
theorem dX10_meanOfRanks_42 : decode cX10_meanOfRanks 42 = .ok (.ifCond .eq 62, 3) := by decide +kernel
theorem dX10_meanOfRanks_45 : decode cX10_meanOfRanks 45 = .ok (.aload_n 3, 1) := by decide +kernel
theorem dX10_meanOfRanks_46 : decode cX10_meanOfRanks 46 = .ok (.aload_n 0, 1) := by decide +kernel
theorem dX10_meanOfRanks_47 : decode cX10_meanOfRanks 47 = .ok (.getfield 10, 3) := by decide +kernel
theorem dX10_meanOfRanks_50 : decode cX10_meanOfRanks 50 = .ok (.getfield 276, 3) := by decide +kernel
theorem dX10_meanOfRanks_53 : decode cX10_meanOfRanks 53 = .ok (.invokevirtual 282, 3) := by decide +kernel
theorem dX10_meanOfRanks_56 : decode cX10_meanOfRanks 56 = .ok (.aload_n 0, 1) := by decide +kernel
theorem dX10_meanOfRanks_57 : decode cX10_meanOfRanks 57 = .ok (.getfield 28, 3) := by decide +kernel
theorem dX10_meanOfRanks_60 : decode cX10_meanOfRanks 60 = .ok (.aload_n 0, 1) := by decide +kernel
theorem dX10_meanOfRanks_61 : decode cX10_meanOfRanks 61 = .ok (.getfield 10, 3) := by decide +kernel
theorem dX10_meanOfRanks_64 : decode cX10_meanOfRanks 64 = .ok (.invokevirtual 286, 3) := by decide +kernel
theorem dX10_meanOfRanks_67 : decode cX10_meanOfRanks 67 = .ok (.aload_n 0, 1) := by decide +kernel
theorem dX10_meanOfRanks_68 : decode cX10_meanOfRanks 68 = .ok (.getfield 31, 3) := by decide +kernel
theorem dX10_meanOfRanks_71 : decode cX10_meanOfRanks 71 = .ok (.aload_n 0, 1) := by decide +kernel
theorem dX10_meanOfRanks_72 : decode cX10_meanOfRanks 72 = .ok (.getfield 57, 3) := by decide +kernel
theorem dX10_meanOfRanks_75 : decode cX10_meanOfRanks 75 = .ok (.iload_n 1, 1) := by decide +kernel
theorem dX10_meanOfRanks_76 : decode cX10_meanOfRanks 76 = .ok (.aaload, 1) := by decide +kernel
theorem dX10_meanOfRanks_77 : decode cX10_meanOfRanks 77 = .ok (.aload_n 3, 1) := by decide +kernel
theorem dX10_meanOfRanks_78 : decode cX10_meanOfRanks 78 = .ok (.aload_n 0, 1) := by decide +kernel
theorem dX10_meanOfRanks_79 : decode cX10_meanOfRanks 79 = .ok (.getfield 57, 3) := by decide +kernel
theorem dX10_meanOfRanks_82 : decode cX10_meanOfRanks 82 = .ok (.iload_n 1, 1) := by decide +kernel
theorem dX10_meanOfRanks_83 : decode cX10_meanOfRanks 83 = .ok (.aaload, 1) := by decide +kernel
theorem dX10_meanOfRanks_84 : decode cX10_meanOfRanks 84 = .ok (.invokevirtual 289, 3) := by decide +kernel
theorem dX10_meanOfRanks_87 : decode cX10_meanOfRanks 87 = .ok (.ifCond .eq 7, 3) := by decide +kernel
theorem dX10_meanOfRanks_90 : decode cX10_meanOfRanks 90 = .ok (.iconst 0, 1) := by decide +kernel
theorem dX10_meanOfRanks_91 : decode cX10_meanOfRanks 91 = .ok (.goto 10, 3) := by decide +kernel
theorem dX10_meanOfRanks_94 : decode cX10_meanOfRanks 94 = .ok (.aload_n 0, 1) := by decide +kernel
theorem dX10_meanOfRanks_95 : decode cX10_meanOfRanks 95 = .ok (.getfield 10, 3) := by decide +kernel
theorem dX10_meanOfRanks_98 : decode cX10_meanOfRanks 98 = .ok (.getfield 84, 3) := by decide +kernel
theorem dX10_meanOfRanks_101 : decode cX10_meanOfRanks 101 = .ok (.invokestatic 293, 3) := by decide +kernel
theorem dX10_meanOfRanks_104 : decode cX10_meanOfRanks 104 = .ok (.aload_n 3, 1) := by decide +kernel
theorem dX10_meanOfRanks_105 : decode cX10_meanOfRanks 105 = .ok (.getfield 255, 3) := by decide +kernel
theorem dX10_meanOfRanks_108 : decode cX10_meanOfRanks 108 = .ok (.aload_n 3, 1) := by decide +kernel
theorem dX10_meanOfRanks_109 : decode cX10_meanOfRanks 109 = .ok (.getfield 260, 3) := by decide +kernel
theorem dX10_meanOfRanks_112 : decode cX10_meanOfRanks 112 = .ok (.iload_n 2, 1) := by decide +kernel
theorem dX10_meanOfRanks_113 : decode cX10_meanOfRanks 113 = .ok (.invokestatic 263, 3) := by decide +kernel
theorem dX10_meanOfRanks_116 : decode cX10_meanOfRanks 116 = .ok (.lreturn, 1) := by decide +kernel
theorem dX10_hope_0 : decode cX10_hope 0 = .ok (.iload_n 1, 1) := by decide +kernel
theorem dX10_hope_1 : decode cX10_hope 1 = .ok (.iconst 0, 1) := by decide +kernel
theorem dX10_hope_2 : decode cX10_hope 2 = .ok (.bipush 6, 2) := by decide +kernel
theorem dX10_hope_4 : decode cX10_hope 4 = .ok (.invokestatic 76, 3) := by decide +kernel
theorem dX10_hope_7 : decode cX10_hope 7 = .ok (.ifCond .eq 12, 3) := by decide +kernel
theorem dX10_hope_10 : decode cX10_hope 10 = .ok (.iload_n 2, 1) := by decide +kernel
theorem dX10_hope_11 : decode cX10_hope 11 = .ok (.iconst 0, 1) := by decide +kernel
theorem dX10_hope_12 : decode cX10_hope 12 = .ok (.iconst 1, 1) := by decide +kernel
theorem dX10_hope_13 : decode cX10_hope 13 = .ok (.invokestatic 76, 3) := by decide +kernel
theorem dX10_hope_16 : decode cX10_hope 16 = .ok (.ifCond .ne 7, 3) := by decide +kernel
theorem dX10_hope_19 : decode cX10_hope 19 = .ok (.ldc2_w 247, 3) := by decide +kernel
theorem dX10_hope_22 : decode cX10_hope 22 = .ok (.lreturn, 1) := by decide +kernel
theorem dX10_hope_23 : decode cX10_hope 23 = .ok (.aload_n 0, 1) := by decide +kernel
theorem dX10_hope_24 : decode cX10_hope 24 = .ok (.getfield 44, 3) := by decide +kernel
theorem dX10_hope_27 : decode cX10_hope 27 = .ok (.invokevirtual 297, 3) := by decide +kernel
theorem dX10_hope_30 : decode cX10_hope 30 = .ok (.aload_n 0, 1) := by decide +kernel
theorem dX10_hope_31 : decode cX10_hope 31 = .ok (.getfield 44, 3) := by decide +kernel
theorem dX10_hope_34 : decode cX10_hope 34 = .ok (.getfield 300, 3) := by decide +kernel
theorem dX10_hope_37 : decode cX10_hope 37 = .ok (.ifCond .ne 7, 3) := by decide +kernel
theorem dX10_hope_40 : decode cX10_hope 40 = .ok (.ldc2_w 249, 3) := by decide +kernel
theorem dX10_hope_43 : decode cX10_hope 43 = .ok (.lreturn, 1) := by decide +kernel
theorem dX10_hope_44 : decode cX10_hope 44 = .ok (.aload_n 0, 1) := by decide +kernel
theorem dX10_hope_45 : decode cX10_hope 45 = .ok (.getfield 44, 3) := by decide +kernel
theorem dX10_hope_48 : decode cX10_hope 48 = .ok (.iload_n 1, 1) := by decide +kernel
theorem dX10_hope_49 : decode cX10_hope 49 = .ok (.invokevirtual 303, 3) := by decide +kernel
theorem dX10_hope_52 : decode cX10_hope 52 = .ok (.aload_n 0, 1) := by decide +kernel
theorem dX10_hope_53 : decode cX10_hope 53 = .ok (.getfield 44, 3) := by decide +kernel
theorem dX10_hope_56 : decode cX10_hope 56 = .ok (.getfield 307, 3) := by decide +kernel
theorem dX10_hope_59 : decode cX10_hope 59 = .ok (.iload_n 1, 1) := by decide +kernel
theorem dX10_hope_60 : decode cX10_hope 60 = .ok (.laload, 1) := by decide +kernel
theorem dX10_hope_61 : decode cX10_hope 61 = .ok (.iload_n 2, 1) := by decide +kernel
theorem dX10_hope_62 : decode cX10_hope 62 = .ok (.invokestatic 263, 3) := by decide +kernel
theorem dX10_hope_65 : decode cX10_hope 65 = .ok (.lreturn, 1) := by decide +kernel
theorem dX10_hopeFor_0 : decode cX10_hopeFor 0 = .ok (.aload_n 0, 1) := by decide +kernel
theorem dX10_hopeFor_1 : decode cX10_hopeFor 1 = .ok (.iload_n 1, 1) := by decide +kernel
theorem dX10_hopeFor_2 : decode cX10_hopeFor 2 = .ok (.invokevirtual 101, 3) := by decide +kernel
theorem dX10_hopeFor_5 : decode cX10_hopeFor 5 = .ok (.ifCond .eq 13, 3) := by decide +kernel
theorem dX10_hopeFor_8 : decode cX10_hopeFor 8 = .ok (.iload_n 2, 1) := by decide +kernel
theorem dX10_hopeFor_9 : decode cX10_hopeFor 9 = .ok (.iconst 1, 1) := by decide +kernel
theorem dX10_hopeFor_10 : decode cX10_hopeFor 10 = .ok (.bipush 6, 2) := by decide +kernel
theorem dX10_hopeFor_12 : decode cX10_hopeFor 12 = .ok (.invokestatic 76, 3) := by decide +kernel
theorem dX10_hopeFor_15 : decode cX10_hopeFor 15 = .ok (.ifCond .ne 5, 3) := by decide +kernel
theorem dX10_hopeFor_18 : decode cX10_hopeFor 18 = .ok (.iconst (-1), 1) := by decide +kernel
theorem dX10_hopeFor_19 : decode cX10_hopeFor 19 = .ok (.ireturn, 1) := by decide +kernel
theorem dX10_hopeFor_20 : decode cX10_hopeFor 20 = .ok (.aload_n 0, 1) := by decide +kernel
theorem dX10_hopeFor_21 : decode cX10_hopeFor 21 = .ok (.getfield 44, 3) := by decide +kernel
theorem dX10_hopeFor_24 : decode cX10_hopeFor 24 = .ok (.invokevirtual 297, 3) := by decide +kernel
theorem dX10_hopeFor_27 : decode cX10_hopeFor 27 = .ok (.aload_n 0, 1) := by decide +kernel
theorem dX10_hopeFor_28 : decode cX10_hopeFor 28 = .ok (.getfield 44, 3) := by decide +kernel
theorem dX10_hopeFor_31 : decode cX10_hopeFor 31 = .ok (.getfield 300, 3) := by decide +kernel
theorem dX10_hopeFor_34 : decode cX10_hopeFor 34 = .ok (.ifCond .ne 6, 3) := by decide +kernel
theorem dX10_hopeFor_37 : decode cX10_hopeFor 37 = .ok (.bipush (-2), 2) := by decide +kernel
theorem dX10_hopeFor_39 : decode cX10_hopeFor 39 = .ok (.ireturn, 1) := by decide +kernel
theorem dX10_hopeFor_40 : decode cX10_hopeFor 40 = .ok (.aload_n 0, 1) := by decide +kernel
theorem dX10_hopeFor_41 : decode cX10_hopeFor 41 = .ok (.getfield 44, 3) := by decide +kernel
theorem dX10_hopeFor_44 : decode cX10_hopeFor 44 = .ok (.iload_n 1, 1) := by decide +kernel
theorem dX10_hopeFor_45 : decode cX10_hopeFor 45 = .ok (.iload_n 2, 1) := by decide +kernel
theorem dX10_hopeFor_46 : decode cX10_hopeFor 46 = .ok (.invokevirtual 311, 3) := by decide +kernel
theorem dX10_hopeFor_49 : decode cX10_hopeFor 49 = .ok (.ireturn, 1) := by decide +kernel
theorem dX10_batch_0 : decode cX10_batch 0 = .ok (.iload_n 1, 1) := by decide +kernel
theorem dX10_batch_1 : decode cX10_batch 1 = .ok (.iconst 1, 1) := by decide +kernel
theorem dX10_batch_2 : decode cX10_batch 2 = .ok (.bipush 9, 2) := by decide +kernel
theorem dX10_batch_4 : decode cX10_batch 4 = .ok (.invokestatic 76, 3) := by decide +kernel
theorem dX10_batch_7 : decode cX10_batch 7 = .ok (.ifCond .eq 21, 3) := by decide +kernel
theorem dX10_batch_10 : decode cX10_batch 10 = .ok (.iload_n 2, 1) := by decide +kernel
theorem dX10_batch_11 : decode cX10_batch 11 = .ok (.ifCond .eq 19, 3) := by decide +kernel
theorem dX10_batch_14 : decode cX10_batch 14 = .ok (.iload_n 2, 1) := by decide +kernel
theorem dX10_batch_15 : decode cX10_batch 15 = .ok (.aload_n 0, 1) := by decide +kernel
theorem dX10_batch_16 : decode cX10_batch 16 = .ok (.getfield 10, 3) := by decide +kernel
theorem dX10_batch_19 : decode cX10_batch 19 = .ok (.getfield 95, 3) := by decide +kernel
theorem dX10_batch_22 : decode cX10_batch 22 = .ok (.invokestatic 180, 3) := by decide +kernel
theorem dX10_batch_25 : decode cX10_batch 25 = .ok (.ifCond .ne 5, 3) := by decide +kernel
theorem dX10_batch_28 : decode cX10_batch 28 = .ok (.iconst (-1), 1) := by decide +kernel
theorem dX10_batch_29 : decode cX10_batch 29 = .ok (.ireturn, 1) := by decide +kernel
theorem dX10_batch_30 : decode cX10_batch 30 = .ok (.aload_n 0, 1) := by decide +kernel
theorem dX10_batch_31 : decode cX10_batch 31 = .ok (.getfield 37, 3) := by decide +kernel
theorem dX10_batch_34 : decode cX10_batch 34 = .ok (.aload_n 0, 1) := by decide +kernel
theorem dX10_batch_35 : decode cX10_batch 35 = .ok (.getfield 10, 3) := by decide +kernel
theorem dX10_batch_38 : decode cX10_batch 38 = .ok (.iload_n 1, 1) := by decide +kernel
theorem dX10_batch_39 : decode cX10_batch 39 = .ok (.invokevirtual 314, 3) := by decide +kernel
theorem dX10_batch_42 : decode cX10_batch 42 = .ok (.iload_n 2, 1) := by decide +kernel
theorem dX10_batch_43 : decode cX10_batch 43 = .ok (.ifCond .ne 13, 3) := by decide +kernel
theorem dX10_batch_46 : decode cX10_batch 46 = .ok (.aload_n 0, 1) := by decide +kernel
theorem dX10_batch_47 : decode cX10_batch 47 = .ok (.getfield 37, 3) := by decide +kernel
theorem dX10_batch_50 : decode cX10_batch 50 = .ok (.getfield 229, 3) := by decide +kernel
theorem dX10_batch_53 : decode cX10_batch 53 = .ok (.goto 15, 3) := by decide +kernel
theorem dX10_batch_56 : decode cX10_batch 56 = .ok (.aload_n 0, 1) := by decide +kernel
theorem dX10_batch_57 : decode cX10_batch 57 = .ok (.getfield 37, 3) := by decide +kernel
theorem dX10_batch_60 : decode cX10_batch 60 = .ok (.getfield 232, 3) := by decide +kernel
theorem dX10_batch_63 : decode cX10_batch 63 = .ok (.iload_n 2, 1) := by decide +kernel
theorem dX10_batch_64 : decode cX10_batch 64 = .ok (.bipush 10, 2) := by decide +kernel
theorem dX10_batch_66 : decode cX10_batch 66 = .ok (.isub, 1) := by decide +kernel
theorem dX10_batch_67 : decode cX10_batch 67 = .ok (.iaload, 1) := by decide +kernel
theorem dX10_batch_68 : decode cX10_batch 68 = .ok (.ireturn, 1) := by decide +kernel
theorem dX10_worst_0 : decode cX10_worst 0 = .ok (.aload_n 0, 1) := by decide +kernel
theorem dX10_worst_1 : decode cX10_worst 1 = .ok (.iload_n 1, 1) := by decide +kernel
theorem dX10_worst_2 : decode cX10_worst 2 = .ok (.invokevirtual 174, 3) := by decide +kernel
theorem dX10_worst_5 : decode cX10_worst 5 = .ok (.ifCond .eq 21, 3) := by decide +kernel
theorem dX10_worst_8 : decode cX10_worst 8 = .ok (.iload_n 2, 1) := by decide +kernel
theorem dX10_worst_9 : decode cX10_worst 9 = .ok (.iconst 1, 1) := by decide +kernel
theorem dX10_worst_10 : decode cX10_worst 10 = .ok (.iconst 3, 1) := by decide +kernel
theorem dX10_worst_11 : decode cX10_worst 11 = .ok (.invokestatic 76, 3) := by decide +kernel
theorem dX10_worst_14 : decode cX10_worst 14 = .ok (.ifCond .eq 12, 3) := by decide +kernel
theorem dX10_worst_17 : decode cX10_worst 17 = .ok (.iload_n 3, 1) := by decide +kernel
theorem dX10_worst_18 : decode cX10_worst 18 = .ok (.iconst 0, 1) := by decide +kernel
theorem dX10_worst_19 : decode cX10_worst 19 = .ok (.iconst 3, 1) := by decide +kernel
theorem dX10_worst_20 : decode cX10_worst 20 = .ok (.invokestatic 76, 3) := by decide +kernel
theorem dX10_worst_23 : decode cX10_worst 23 = .ok (.ifCond .ne 5, 3) := by decide +kernel
theorem dX10_worst_26 : decode cX10_worst 26 = .ok (.iconst (-1), 1) := by decide +kernel
theorem dX10_worst_27 : decode cX10_worst 27 = .ok (.ireturn, 1) := by decide +kernel
theorem dX10_worst_28 : decode cX10_worst 28 = .ok (.aload_n 0, 1) := by decide +kernel
theorem dX10_worst_29 : decode cX10_worst 29 = .ok (.getfield 57, 3) := by decide +kernel
theorem dX10_worst_32 : decode cX10_worst 32 = .ok (.iload_n 1, 1) := by decide +kernel
theorem dX10_worst_33 : decode cX10_worst 33 = .ok (.aaload, 1) := by decide +kernel
theorem dX10_worst_34 : decode cX10_worst 34 = .ok (.getfield 318, 3) := by decide +kernel
theorem dX10_worst_37 : decode cX10_worst 37 = .ok (.iload_n 2, 1) := by decide +kernel
theorem dX10_worst_38 : decode cX10_worst 38 = .ok (.iconst 1, 1) := by decide +kernel
theorem dX10_worst_39 : decode cX10_worst 39 = .ok (.isub, 1) := by decide +kernel
theorem dX10_worst_40 : decode cX10_worst 40 = .ok (.aaload, 1) := by decide +kernel
theorem dX10_worst_41 : decode cX10_worst 41 = .ok (.astore 4, 2) := by decide +kernel
theorem dX10_worst_43 : decode cX10_worst 43 = .ok (.aload 4, 2) := by decide +kernel
theorem dX10_worst_45 : decode cX10_worst 45 = .ok (.invokevirtual 322, 3) := by decide +kernel
theorem dX10_worst_48 : decode cX10_worst 48 = .ok (.ifCond .ne 16, 3) := by decide +kernel
theorem dX10_worst_51 : decode cX10_worst 51 = .ok (.aload_n 0, 1) := by decide +kernel
theorem dX10_worst_52 : decode cX10_worst 52 = .ok (.aload_n 0, 1) := by decide +kernel
theorem dX10_worst_53 : decode cX10_worst 53 = .ok (.getfield 57, 3) := by decide +kernel
theorem dX10_worst_56 : decode cX10_worst 56 = .ok (.iload_n 1, 1) := by decide +kernel
theorem dX10_worst_57 : decode cX10_worst 57 = .ok (.aaload, 1) := by decide +kernel
theorem dX10_worst_58 : decode cX10_worst 58 = .ok (.iload_n 2, 1) := by decide +kernel
theorem dX10_worst_59 : decode cX10_worst 59 = .ok (.aload 4, 2) := by decide +kernel
theorem dX10_worst_61 : decode cX10_worst 61 = .ok (.invokevirtual 327, 3) := by decide +kernel
theorem dX10_worst_64 : decode cX10_worst 64 = .ok (.iload_n 3, 1) := by decide +kernel
theorem dX10_worst_65 : decode cX10_worst 65 = .ok (.tableswitch 69 0 2 #[27, 45, 63], 27) := by decide +kernel
theorem dX10_worst_92 : decode cX10_worst 92 = .ok (.aload 4, 2) := by decide +kernel
theorem dX10_worst_94 : decode cX10_worst 94 = .ok (.getfield 331, 3) := by decide +kernel
theorem dX10_worst_97 : decode cX10_worst 97 = .ok (.i2l, 1) := by decide +kernel
theorem dX10_worst_98 : decode cX10_worst 98 = .ok (.aload 4, 2) := by decide +kernel
theorem dX10_worst_100 : decode cX10_worst 100 = .ok (.getfield 333, 3) := by decide +kernel
theorem dX10_worst_103 : decode cX10_worst 103 = .ok (.i2l, 1) := by decide +kernel
theorem dX10_worst_104 : decode cX10_worst 104 = .ok (.iconst 0, 1) := by decide +kernel
theorem dX10_worst_105 : decode cX10_worst 105 = .ok (.invokestatic 263, 3) := by decide +kernel
theorem dX10_worst_108 : decode cX10_worst 108 = .ok (.l2i, 1) := by decide +kernel
theorem dX10_worst_109 : decode cX10_worst 109 = .ok (.ireturn, 1) := by decide +kernel
theorem dX10_worst_110 : decode cX10_worst 110 = .ok (.aload 4, 2) := by decide +kernel
theorem dX10_worst_112 : decode cX10_worst 112 = .ok (.getfield 331, 3) := by decide +kernel
theorem dX10_worst_115 : decode cX10_worst 115 = .ok (.i2l, 1) := by decide +kernel
theorem dX10_worst_116 : decode cX10_worst 116 = .ok (.aload 4, 2) := by decide +kernel
theorem dX10_worst_118 : decode cX10_worst 118 = .ok (.getfield 333, 3) := by decide +kernel
theorem dX10_worst_121 : decode cX10_worst 121 = .ok (.i2l, 1) := by decide +kernel
theorem dX10_worst_122 : decode cX10_worst 122 = .ok (.iconst 1, 1) := by decide +kernel
theorem dX10_worst_123 : decode cX10_worst 123 = .ok (.invokestatic 263, 3) := by decide +kernel
theorem dX10_worst_126 : decode cX10_worst 126 = .ok (.l2i, 1) := by decide +kernel
theorem dX10_worst_127 : decode cX10_worst 127 = .ok (.ireturn, 1) := by decide +kernel
theorem dX10_worst_128 : decode cX10_worst 128 = .ok (.aload 4, 2) := by decide +kernel
theorem dX10_worst_130 : decode cX10_worst 130 = .ok (.getfield 336, 3) := by decide +kernel
theorem dX10_worst_133 : decode cX10_worst 133 = .ok (.ireturn, 1) := by decide +kernel
theorem dX10_worst_134 : decode cX10_worst 134 = .ok (.aload 4, 2) := by decide +kernel
theorem dX10_worst_136 : decode cX10_worst 136 = .ok (.getfield 339, 3) := by decide +kernel
theorem dX10_worst_139 : decode cX10_worst 139 = .ok (.ireturn, 1) := by decide +kernel
theorem dX10_come_0 : decode cX10_come 0 = .ok (.aload_n 0, 1) := by decide +kernel
theorem dX10_come_1 : decode cX10_come 1 = .ok (.iload_n 1, 1) := by decide +kernel
theorem dX10_come_2 : decode cX10_come 2 = .ok (.invokevirtual 101, 3) := by decide +kernel
theorem dX10_come_5 : decode cX10_come 5 = .ok (.ifCond .eq 11, 3) := by decide +kernel
theorem dX10_come_8 : decode cX10_come 8 = .ok (.aload_n 0, 1) := by decide +kernel
theorem dX10_come_9 : decode cX10_come 9 = .ok (.iload_n 2, 1) := by decide +kernel
theorem dX10_come_10 : decode cX10_come 10 = .ok (.invokevirtual 174, 3) := by decide +kernel
theorem dX10_come_13 : decode cX10_come 13 = .ok (.ifCond .ne 5, 3) := by decide +kernel
theorem dX10_come_16 : decode cX10_come 16 = .ok (.iconst (-1), 1) := by decide +kernel
theorem dX10_come_17 : decode cX10_come 17 = .ok (.ireturn, 1) := by decide +kernel
theorem dX10_come_18 : decode cX10_come 18 = .ok (.aload_n 0, 1) := by decide +kernel
theorem dX10_come_19 : decode cX10_come 19 = .ok (.getfield 21, 3) := by decide +kernel
theorem dX10_come_22 : decode cX10_come 22 = .ok (.iload_n 1, 1) := by decide +kernel
theorem dX10_come_23 : decode cX10_come 23 = .ok (.invokevirtual 108, 3) := by decide +kernel
theorem dX10_come_26 : decode cX10_come 26 = .ok (.ifCond .eq 8, 3) := by decide +kernel
theorem dX10_come_29 : decode cX10_come 29 = .ok (.bipush (-2), 2) := by decide +kernel
theorem dX10_come_31 : decode cX10_come 31 = .ok (.goto 17, 3) := by decide +kernel
theorem dX10_come_34 : decode cX10_come 34 = .ok (.aload_n 0, 1) := by decide +kernel
theorem dX10_come_35 : decode cX10_come 35 = .ok (.getfield 21, 3) := by decide +kernel
theorem dX10_come_38 : decode cX10_come 38 = .ok (.iload_n 1, 1) := by decide +kernel
theorem dX10_come_39 : decode cX10_come 39 = .ok (.aload_n 0, 1) := by decide +kernel
theorem dX10_come_40 : decode cX10_come 40 = .ok (.getfield 57, 3) := by decide +kernel
theorem dX10_come_43 : decode cX10_come 43 = .ok (.iload_n 2, 1) := by decide +kernel
theorem dX10_come_44 : decode cX10_come 44 = .ok (.aaload, 1) := by decide +kernel
theorem dX10_come_45 : decode cX10_come 45 = .ok (.invokevirtual 222, 3) := by decide +kernel
theorem dX10_come_48 : decode cX10_come 48 = .ok (.ireturn, 1) := by decide +kernel
theorem dX10_let_0 : decode cX10_let 0 = .ok (.aload_n 0, 1) := by decide +kernel
theorem dX10_let_1 : decode cX10_let 1 = .ok (.iload_n 1, 1) := by decide +kernel
theorem dX10_let_2 : decode cX10_let 2 = .ok (.invokevirtual 101, 3) := by decide +kernel
theorem dX10_let_5 : decode cX10_let 5 = .ok (.ifCond .eq 11, 3) := by decide +kernel
theorem dX10_let_8 : decode cX10_let 8 = .ok (.aload_n 0, 1) := by decide +kernel
theorem dX10_let_9 : decode cX10_let 9 = .ok (.iload_n 2, 1) := by decide +kernel
theorem dX10_let_10 : decode cX10_let 10 = .ok (.invokevirtual 105, 3) := by decide +kernel
theorem dX10_let_13 : decode cX10_let 13 = .ok (.ifCond .ne 5, 3) := by decide +kernel
theorem dX10_let_16 : decode cX10_let 16 = .ok (.iconst (-1), 1) := by decide +kernel
theorem dX10_let_17 : decode cX10_let 17 = .ok (.ireturn, 1) := by decide +kernel
theorem dX10_let_18 : decode cX10_let 18 = .ok (.aload_n 0, 1) := by decide +kernel
theorem dX10_let_19 : decode cX10_let 19 = .ok (.getfield 21, 3) := by decide +kernel
theorem dX10_let_22 : decode cX10_let 22 = .ok (.iload_n 1, 1) := by decide +kernel
theorem dX10_let_23 : decode cX10_let 23 = .ok (.invokevirtual 108, 3) := by decide +kernel
theorem dX10_let_26 : decode cX10_let 26 = .ok (.ifCond .ne 15, 3) := by decide +kernel
theorem dX10_let_29 : decode cX10_let 29 = .ok (.aload_n 0, 1) := by decide +kernel
theorem dX10_let_30 : decode cX10_let 30 = .ok (.getfield 21, 3) := by decide +kernel
theorem dX10_let_33 : decode cX10_let 33 = .ok (.iload_n 1, 1) := by decide +kernel
theorem dX10_let_34 : decode cX10_let 34 = .ok (.iload_n 2, 1) := by decide +kernel
theorem dX10_let_35 : decode cX10_let 35 = .ok (.invokevirtual 342, 3) := by decide +kernel
theorem dX10_let_38 : decode cX10_let 38 = .ok (.ifCond .ne 6, 3) := by decide +kernel
theorem dX10_let_41 : decode cX10_let 41 = .ok (.bipush (-2), 2) := by decide +kernel
theorem dX10_let_43 : decode cX10_let 43 = .ok (.ireturn, 1) := by decide +kernel
theorem dX10_let_44 : decode cX10_let 44 = .ok (.aload_n 0, 1) := by decide +kernel
theorem dX10_let_45 : decode cX10_let 45 = .ok (.getfield 21, 3) := by decide +kernel
theorem dX10_let_48 : decode cX10_let 48 = .ok (.iload_n 1, 1) := by decide +kernel
theorem dX10_let_49 : decode cX10_let 49 = .ok (.iload_n 2, 1) := by decide +kernel
theorem dX10_let_50 : decode cX10_let 50 = .ok (.invokevirtual 345, 3) := by decide +kernel
theorem dX10_let_53 : decode cX10_let 53 = .ok (.ireturn, 1) := by decide +kernel
theorem dX10_leave_0 : decode cX10_leave 0 = .ok (.aload_n 0, 1) := by decide +kernel
theorem dX10_leave_1 : decode cX10_leave 1 = .ok (.iload_n 1, 1) := by decide +kernel
theorem dX10_leave_2 : decode cX10_leave 2 = .ok (.invokevirtual 101, 3) := by decide +kernel
theorem dX10_leave_5 : decode cX10_leave 5 = .ok (.ifCond .ne 5, 3) := by decide +kernel
theorem dX10_leave_8 : decode cX10_leave 8 = .ok (.iconst (-1), 1) := by decide +kernel
theorem dX10_leave_9 : decode cX10_leave 9 = .ok (.ireturn, 1) := by decide +kernel
theorem dX10_leave_10 : decode cX10_leave 10 = .ok (.aload_n 0, 1) := by decide +kernel
theorem dX10_leave_11 : decode cX10_leave 11 = .ok (.getfield 21, 3) := by decide +kernel
theorem dX10_leave_14 : decode cX10_leave 14 = .ok (.getfield 213, 3) := by decide +kernel
theorem dX10_leave_17 : decode cX10_leave 17 = .ok (.iload_n 1, 1) := by decide +kernel
theorem dX10_leave_18 : decode cX10_leave 18 = .ok (.iaload, 1) := by decide +kernel
theorem dX10_leave_19 : decode cX10_leave 19 = .ok (.bipush (-4), 2) := by decide +kernel
theorem dX10_leave_21 : decode cX10_leave 21 = .ok (.if_icmp .ne 8, 3) := by decide +kernel
theorem dX10_leave_24 : decode cX10_leave 24 = .ok (.bipush (-2), 2) := by decide +kernel
theorem dX10_leave_26 : decode cX10_leave 26 = .ok (.goto 11, 3) := by decide +kernel
theorem dX10_leave_29 : decode cX10_leave 29 = .ok (.aload_n 0, 1) := by decide +kernel
theorem dX10_leave_30 : decode cX10_leave 30 = .ok (.getfield 21, 3) := by decide +kernel
theorem dX10_leave_33 : decode cX10_leave 33 = .ok (.iload_n 1, 1) := by decide +kernel
theorem dX10_leave_34 : decode cX10_leave 34 = .ok (.invokevirtual 348, 3) := by decide +kernel
theorem dX10_leave_37 : decode cX10_leave 37 = .ok (.ireturn, 1) := by decide +kernel
theorem dX10_undo_0 : decode cX10_undo 0 = .ok (.aload_n 0, 1) := by decide +kernel
theorem dX10_undo_1 : decode cX10_undo 1 = .ok (.getfield 21, 3) := by decide +kernel
theorem dX10_undo_4 : decode cX10_undo 4 = .ok (.getfield 351, 3) := by decide +kernel
theorem dX10_undo_7 : decode cX10_undo 7 = .ok (.ifCond .ne 6, 3) := by decide +kernel
theorem dX10_undo_10 : decode cX10_undo 10 = .ok (.bipush (-4), 2) := by decide +kernel
theorem dX10_undo_12 : decode cX10_undo 12 = .ok (.ireturn, 1) := by decide +kernel
theorem dX10_undo_13 : decode cX10_undo 13 = .ok (.aload_n 0, 1) := by decide +kernel
theorem dX10_undo_14 : decode cX10_undo 14 = .ok (.getfield 21, 3) := by decide +kernel
theorem dX10_undo_17 : decode cX10_undo 17 = .ok (.invokevirtual 354, 3) := by decide +kernel
theorem dX10_undo_20 : decode cX10_undo 20 = .ok (.aload_n 0, 1) := by decide +kernel
theorem dX10_undo_21 : decode cX10_undo 21 = .ok (.getfield 21, 3) := by decide +kernel
theorem dX10_undo_24 : decode cX10_undo 24 = .ok (.getfield 351, 3) := by decide +kernel
theorem dX10_undo_27 : decode cX10_undo 27 = .ok (.ireturn, 1) := by decide +kernel
theorem dX10_market_0 : decode cX10_market 0 = .ok (.iload_n 1, 1) := by decide +kernel
theorem dX10_market_1 : decode cX10_market 1 = .ok (.aload_n 0, 1) := by decide +kernel
theorem dX10_market_2 : decode cX10_market 2 = .ok (.getfield 10, 3) := by decide +kernel
theorem dX10_market_5 : decode cX10_market 5 = .ok (.getfield 95, 3) := by decide +kernel
theorem dX10_market_8 : decode cX10_market 8 = .ok (.invokestatic 180, 3) := by decide +kernel
theorem dX10_market_11 : decode cX10_market 11 = .ok (.ifCond .eq 16, 3) := by decide +kernel
theorem dX10_market_14 : decode cX10_market 14 = .ok (.aload_n 0, 1) := by decide +kernel
theorem dX10_market_15 : decode cX10_market 15 = .ok (.getfield 21, 3) := by decide +kernel
theorem dX10_market_18 : decode cX10_market 18 = .ok (.getfield 213, 3) := by decide +kernel
theorem dX10_market_21 : decode cX10_market 21 = .ok (.iload_n 1, 1) := by decide +kernel
theorem dX10_market_22 : decode cX10_market 22 = .ok (.bipush 10, 2) := by decide +kernel
theorem dX10_market_24 : decode cX10_market 24 = .ok (.isub, 1) := by decide +kernel
theorem dX10_market_25 : decode cX10_market 25 = .ok (.iaload, 1) := by decide +kernel
theorem dX10_market_26 : decode cX10_market 26 = .ok (.ireturn, 1) := by decide +kernel
theorem dX10_market_27 : decode cX10_market 27 = .ok (.iload_n 1, 1) := by decide +kernel
theorem dX10_market_28 : decode cX10_market 28 = .ok (.tableswitch 76 0 4 #[36, 44, 52, 60, 68], 36) := by decide +kernel
theorem dX10_market_64 : decode cX10_market 64 = .ok (.aload_n 0, 1) := by decide +kernel
theorem dX10_market_65 : decode cX10_market 65 = .ok (.getfield 21, 3) := by decide +kernel
theorem dX10_market_68 : decode cX10_market 68 = .ok (.invokevirtual 201, 3) := by decide +kernel
theorem dX10_market_71 : decode cX10_market 71 = .ok (.ireturn, 1) := by decide +kernel
theorem dX10_market_72 : decode cX10_market 72 = .ok (.aload_n 0, 1) := by decide +kernel
theorem dX10_market_73 : decode cX10_market 73 = .ok (.getfield 21, 3) := by decide +kernel
theorem dX10_market_76 : decode cX10_market 76 = .ok (.invokevirtual 204, 3) := by decide +kernel
theorem dX10_market_79 : decode cX10_market 79 = .ok (.ireturn, 1) := by decide +kernel
theorem dX10_market_80 : decode cX10_market 80 = .ok (.aload_n 0, 1) := by decide +kernel
theorem dX10_market_81 : decode cX10_market 81 = .ok (.getfield 21, 3) := by decide +kernel
theorem dX10_market_84 : decode cX10_market 84 = .ok (.getfield 80, 3) := by decide +kernel
theorem dX10_market_87 : decode cX10_market 87 = .ok (.ireturn, 1) := by decide +kernel
theorem dX10_market_88 : decode cX10_market 88 = .ok (.aload_n 0, 1) := by decide +kernel
theorem dX10_market_89 : decode cX10_market 89 = .ok (.getfield 21, 3) := by decide +kernel
theorem dX10_market_92 : decode cX10_market 92 = .ok (.invokevirtual 207, 3) := by decide +kernel
theorem dX10_market_95 : decode cX10_market 95 = .ok (.ireturn, 1) := by decide +kernel
theorem dX10_market_96 : decode cX10_market 96 = .ok (.aload_n 0, 1) := by decide +kernel
theorem dX10_market_97 : decode cX10_market 97 = .ok (.getfield 21, 3) := by decide +kernel
theorem dX10_market_100 : decode cX10_market 100 = .ok (.getfield 351, 3) := by decide +kernel
theorem dX10_market_103 : decode cX10_market 103 = .ok (.ireturn, 1) := by decide +kernel
theorem dX10_market_104 : decode cX10_market 104 = .ok (.iconst (-1), 1) := by decide +kernel
theorem dX10_market_105 : decode cX10_market 105 = .ok (.ireturn, 1) := by decide +kernel
theorem dX10_sheet_0 : decode cX10_sheet 0 = .ok (.iload_n 1, 1) := by decide +kernel
theorem dX10_sheet_1 : decode cX10_sheet 1 = .ok (.invokestatic 357, 3) := by decide +kernel
theorem dX10_sheet_4 : decode cX10_sheet 4 = .ok (.ifCond .eq 18, 3) := by decide +kernel
theorem dX10_sheet_7 : decode cX10_sheet 7 = .ok (.iload_n 2, 1) := by decide +kernel
theorem dX10_sheet_8 : decode cX10_sheet 8 = .ok (.iconst 0, 1) := by decide +kernel
theorem dX10_sheet_9 : decode cX10_sheet 9 = .ok (.iconst 2, 1) := by decide +kernel
theorem dX10_sheet_10 : decode cX10_sheet 10 = .ok (.invokestatic 76, 3) := by decide +kernel
theorem dX10_sheet_13 : decode cX10_sheet 13 = .ok (.ifCond .eq 9, 3) := by decide +kernel
theorem dX10_sheet_16 : decode cX10_sheet 16 = .ok (.iload_n 3, 1) := by decide +kernel
theorem dX10_sheet_17 : decode cX10_sheet 17 = .ok (.bipush 64, 2) := by decide +kernel
theorem dX10_sheet_19 : decode cX10_sheet 19 = .ok (.if_icmp .le 5, 3) := by decide +kernel
theorem dX10_sheet_22 : decode cX10_sheet 22 = .ok (.iconst (-1), 1) := by decide +kernel
theorem dX10_sheet_23 : decode cX10_sheet 23 = .ok (.ireturn, 1) := by decide +kernel
theorem dX10_sheet_24 : decode cX10_sheet 24 = .ok (.iload_n 3, 1) := by decide +kernel
theorem dX10_sheet_25 : decode cX10_sheet 25 = .ok (.ifCond .ge 6, 3) := by decide +kernel
theorem dX10_sheet_28 : decode cX10_sheet 28 = .ok (.bipush (-14), 2) := by decide +kernel
theorem dX10_sheet_30 : decode cX10_sheet 30 = .ok (.ireturn, 1) := by decide +kernel
theorem dX10_sheet_31 : decode cX10_sheet 31 = .ok (.aload_n 0, 1) := by decide +kernel
theorem dX10_sheet_32 : decode cX10_sheet 32 = .ok (.getfield 63, 3) := by decide +kernel
theorem dX10_sheet_35 : decode cX10_sheet 35 = .ok (.iload_n 1, 1) := by decide +kernel
theorem dX10_sheet_36 : decode cX10_sheet 36 = .ok (.aaload, 1) := by decide +kernel
theorem dX10_sheet_37 : decode cX10_sheet 37 = .ok (.iload_n 2, 1) := by decide +kernel
theorem dX10_sheet_38 : decode cX10_sheet 38 = .ok (.iload_n 3, 1) := by decide +kernel
theorem dX10_sheet_39 : decode cX10_sheet 39 = .ok (.invokevirtual 360, 3) := by decide +kernel
theorem dX10_sheet_42 : decode cX10_sheet 42 = .ok (.iconst 1, 1) := by decide +kernel
theorem dX10_sheet_43 : decode cX10_sheet 43 = .ok (.ireturn, 1) := by decide +kernel
theorem dX10_lay_0 : decode cX10_lay 0 = .ok (.iload_n 1, 1) := by decide +kernel
theorem dX10_lay_1 : decode cX10_lay 1 = .ok (.invokestatic 357, 3) := by decide +kernel
theorem dX10_lay_4 : decode cX10_lay 4 = .ok (.ifCond .ne 5, 3) := by decide +kernel
theorem dX10_lay_7 : decode cX10_lay 7 = .ok (.iconst (-1), 1) := by decide +kernel
theorem dX10_lay_8 : decode cX10_lay 8 = .ok (.ireturn, 1) := by decide +kernel
theorem dX10_lay_9 : decode cX10_lay 9 = .ok (.aload_n 0, 1) := by decide +kernel
theorem dX10_lay_10 : decode cX10_lay 10 = .ok (.getfield 63, 3) := by decide +kernel
theorem dX10_lay_13 : decode cX10_lay 13 = .ok (.iload_n 1, 1) := by decide +kernel
theorem dX10_lay_14 : decode cX10_lay 14 = .ok (.aaload, 1) := by decide +kernel
theorem dX10_lay_15 : decode cX10_lay 15 = .ok (.astore 4, 2) := by decide +kernel
theorem dX10_lay_17 : decode cX10_lay 17 = .ok (.aload 4, 2) := by decide +kernel
theorem dX10_lay_19 : decode cX10_lay 19 = .ok (.invokevirtual 363, 3) := by decide +kernel
theorem dX10_lay_22 : decode cX10_lay 22 = .ok (.ifCond .eq 6, 3) := by decide +kernel
theorem dX10_lay_25 : decode cX10_lay 25 = .ok (.bipush (-11), 2) := by decide +kernel
theorem dX10_lay_27 : decode cX10_lay 27 = .ok (.ireturn, 1) := by decide +kernel
theorem dX10_lay_28 : decode cX10_lay 28 = .ok (.aload 4, 2) := by decide +kernel
theorem dX10_lay_30 : decode cX10_lay 30 = .ok (.iload_n 2, 1) := by decide +kernel
theorem dX10_lay_31 : decode cX10_lay 31 = .ok (.invokevirtual 366, 3) := by decide +kernel
theorem dX10_lay_34 : decode cX10_lay 34 = .ok (.ifCond .ne 6, 3) := by decide +kernel
theorem dX10_lay_37 : decode cX10_lay 37 = .ok (.bipush (-12), 2) := by decide +kernel
theorem dX10_lay_39 : decode cX10_lay 39 = .ok (.ireturn, 1) := by decide +kernel
theorem dX10_lay_40 : decode cX10_lay 40 = .ok (.aload 4, 2) := by decide +kernel
theorem dX10_lay_42 : decode cX10_lay 42 = .ok (.iload_n 2, 1) := by decide +kernel
theorem dX10_lay_43 : decode cX10_lay 43 = .ok (.iload_n 3, 1) := by decide +kernel
theorem dX10_lay_44 : decode cX10_lay 44 = .ok (.invokevirtual 369, 3) := by decide +kernel
theorem dX10_lay_47 : decode cX10_lay 47 = .ok (.iconst 1, 1) := by decide +kernel
theorem dX10_lay_48 : decode cX10_lay 48 = .ok (.ireturn, 1) := by decide +kernel
theorem dX10_net_0 : decode cX10_net 0 = .ok (.iload_n 1, 1) := by decide +kernel
theorem dX10_net_1 : decode cX10_net 1 = .ok (.invokestatic 357, 3) := by decide +kernel
theorem dX10_net_4 : decode cX10_net 4 = .ok (.ifCond .eq 12, 3) := by decide +kernel
theorem dX10_net_7 : decode cX10_net 7 = .ok (.iload_n 2, 1) := by decide +kernel
theorem dX10_net_8 : decode cX10_net 8 = .ok (.iconst 0, 1) := by decide +kernel
theorem dX10_net_9 : decode cX10_net 9 = .ok (.iconst 2, 1) := by decide +kernel
theorem dX10_net_10 : decode cX10_net 10 = .ok (.invokestatic 76, 3) := by decide +kernel
theorem dX10_net_13 : decode cX10_net 13 = .ok (.ifCond .ne 5, 3) := by decide +kernel
theorem dX10_net_16 : decode cX10_net 16 = .ok (.iconst (-1), 1) := by decide +kernel
theorem dX10_net_17 : decode cX10_net 17 = .ok (.ireturn, 1) := by decide +kernel
theorem dX10_net_18 : decode cX10_net 18 = .ok (.aload_n 0, 1) := by decide +kernel
theorem dX10_net_19 : decode cX10_net 19 = .ok (.getfield 63, 3) := by decide +kernel
theorem dX10_net_22 : decode cX10_net 22 = .ok (.iload_n 1, 1) := by decide +kernel
theorem dX10_net_23 : decode cX10_net 23 = .ok (.aaload, 1) := by decide +kernel
theorem dX10_net_24 : decode cX10_net 24 = .ok (.astore 4, 2) := by decide +kernel
theorem dX10_net_26 : decode cX10_net 26 = .ok (.aload 4, 2) := by decide +kernel
theorem dX10_net_28 : decode cX10_net 28 = .ok (.invokevirtual 363, 3) := by decide +kernel
theorem dX10_net_31 : decode cX10_net 31 = .ok (.ifCond .eq 6, 3) := by decide +kernel
theorem dX10_net_34 : decode cX10_net 34 = .ok (.bipush (-11), 2) := by decide +kernel
theorem dX10_net_36 : decode cX10_net 36 = .ok (.ireturn, 1) := by decide +kernel
theorem dX10_net_37 : decode cX10_net 37 = .ok (.aload 4, 2) := by decide +kernel
theorem dX10_net_39 : decode cX10_net 39 = .ok (.getfield 372, 3) := by decide +kernel
theorem dX10_net_42 : decode cX10_net 42 = .ok (.iload_n 2, 1) := by decide +kernel
theorem dX10_net_43 : decode cX10_net 43 = .ok (.if_icmp .eq 6, 3) := by decide +kernel
theorem dX10_net_46 : decode cX10_net 46 = .ok (.bipush (-13), 2) := by decide +kernel
theorem dX10_net_48 : decode cX10_net 48 = .ok (.ireturn, 1) := by decide +kernel
theorem dX10_net_49 : decode cX10_net 49 = .ok (.aload_n 0, 1) := by decide +kernel
theorem dX10_net_50 : decode cX10_net 50 = .ok (.getfield 10, 3) := by decide +kernel
theorem dX10_net_53 : decode cX10_net 53 = .ok (.getfield 95, 3) := by decide +kernel
theorem dX10_net_56 : decode cX10_net 56 = .ok (.aload_n 0, 1) := by decide +kernel
theorem dX10_net_57 : decode cX10_net 57 = .ok (.getfield 10, 3) := by decide +kernel
theorem dX10_net_60 : decode cX10_net 60 = .ok (.getfield 84, 3) := by decide +kernel
theorem dX10_net_63 : decode cX10_net 63 = .ok (.imul, 1) := by decide +kernel
theorem dX10_net_64 : decode cX10_net 64 = .ok (.istore 5, 2) := by decide +kernel
theorem dX10_net_66 : decode cX10_net 66 = .ok (.iconst 0, 1) := by decide +kernel
theorem dX10_net_67 : decode cX10_net 67 = .ok (.istore 6, 2) := by decide +kernel
theorem dX10_net_69 : decode cX10_net 69 = .ok (.iload 6, 2) := by decide +kernel
theorem dX10_net_71 : decode cX10_net 71 = .ok (.iload 5, 2) := by decide +kernel
theorem dX10_net_73 : decode cX10_net 73 = .ok (.if_icmp .ge 49, 3) := by decide +kernel
theorem dX10_net_76 : decode cX10_net 76 = .ok (.aload 4, 2) := by decide +kernel
theorem dX10_net_78 : decode cX10_net 78 = .ok (.iload_n 3, 1) := by decide +kernel
theorem dX10_net_79 : decode cX10_net 79 = .ok (.iload 6, 2) := by decide +kernel
theorem dX10_net_81 : decode cX10_net 81 = .ok (.iadd, 1) := by decide +kernel
theorem dX10_net_82 : decode cX10_net 82 = .ok (.invokevirtual 366, 3) := by decide +kernel
theorem dX10_net_85 : decode cX10_net 85 = .ok (.ifCond .ne 6, 3) := by decide +kernel
theorem dX10_net_88 : decode cX10_net 88 = .ok (.bipush (-12), 2) := by decide +kernel
theorem dX10_net_90 : decode cX10_net 90 = .ok (.ireturn, 1) := by decide +kernel
theorem dX10_net_91 : decode cX10_net 91 = .ok (.aload 4, 2) := by decide +kernel
theorem dX10_net_93 : decode cX10_net 93 = .ok (.getfield 375, 3) := by decide +kernel
theorem dX10_net_96 : decode cX10_net 96 = .ok (.iload_n 3, 1) := by decide +kernel
theorem dX10_net_97 : decode cX10_net 97 = .ok (.iload 6, 2) := by decide +kernel
theorem dX10_net_99 : decode cX10_net 99 = .ok (.iadd, 1) := by decide +kernel
theorem dX10_net_100 : decode cX10_net 100 = .ok (.iaload, 1) := by decide +kernel
theorem dX10_net_101 : decode cX10_net 101 = .ok (.iconst 0, 1) := by decide +kernel
theorem dX10_net_102 : decode cX10_net 102 = .ok (.bipush 99, 2) := by decide +kernel
theorem dX10_net_104 : decode cX10_net 104 = .ok (.invokestatic 76, 3) := by decide +kernel
theorem dX10_net_107 : decode cX10_net 107 = .ok (.ifCond .ne 9, 3) := by decide +kernel
theorem dX10_net_110 : decode cX10_net 110 = .ok (.bipush (-100), 2) := by decide +kernel
theorem dX10_net_112 : decode cX10_net 112 = .ok (.iload 6, 2) := by decide +kernel
theorem dX10_net_114 : decode cX10_net 114 = .ok (.isub, 1) := by decide +kernel
theorem dX10_net_115 : decode cX10_net 115 = .ok (.ireturn, 1) := by decide +kernel
theorem dX10_net_116 : decode cX10_net 116 = .ok (.iinc 6 1, 3) := by decide +kernel
theorem dX10_net_119 : decode cX10_net 119 = .ok (.goto (-50), 3) := by decide +kernel
theorem dX10_net_122 : decode cX10_net 122 = .ok (.aload_n 0, 1) := by decide +kernel
theorem dX10_net_123 : decode cX10_net 123 = .ok (.getfield 21, 3) := by decide +kernel
theorem dX10_net_126 : decode cX10_net 126 = .ok (.getfield 80, 3) := by decide +kernel
theorem dX10_net_129 : decode cX10_net 129 = .ok (.ifCond .le 8, 3) := by decide +kernel
theorem dX10_net_132 : decode cX10_net 132 = .ok (.bipush (-2), 2) := by decide +kernel
theorem dX10_net_134 : decode cX10_net 134 = .ok (.goto 10, 3) := by decide +kernel
theorem dX10_net_137 : decode cX10_net 137 = .ok (.aload_n 0, 1) := by decide +kernel
theorem dX10_net_138 : decode cX10_net 138 = .ok (.aload 4, 2) := by decide +kernel
theorem dX10_net_140 : decode cX10_net 140 = .ok (.iload_n 3, 1) := by decide +kernel
theorem dX10_net_141 : decode cX10_net 141 = .ok (.invokevirtual 378, 3) := by decide +kernel
theorem dX10_net_144 : decode cX10_net 144 = .ok (.ireturn, 1) := by decide +kernel
theorem dX10_count_0 : decode cX10_count 0 = .ok (.iload_n 1, 1) := by decide +kernel
theorem dX10_count_1 : decode cX10_count 1 = .ok (.tableswitch 115 0 6 #[43, 51, 59, 64, 72, 80, 88], 43) := by decide +kernel
theorem dX10_count_44 : decode cX10_count 44 = .ok (.aload_n 0, 1) := by decide +kernel
theorem dX10_count_45 : decode cX10_count 45 = .ok (.getfield 10, 3) := by decide +kernel
theorem dX10_count_48 : decode cX10_count 48 = .ok (.getfield 84, 3) := by decide +kernel
theorem dX10_count_51 : decode cX10_count 51 = .ok (.ireturn, 1) := by decide +kernel
theorem dX10_count_52 : decode cX10_count 52 = .ok (.aload_n 0, 1) := by decide +kernel
theorem dX10_count_53 : decode cX10_count 53 = .ok (.getfield 10, 3) := by decide +kernel
theorem dX10_count_56 : decode cX10_count 56 = .ok (.getfield 95, 3) := by decide +kernel
theorem dX10_count_59 : decode cX10_count 59 = .ok (.ireturn, 1) := by decide +kernel
theorem dX10_count_60 : decode cX10_count 60 = .ok (.aload_n 0, 1) := by decide +kernel
theorem dX10_count_61 : decode cX10_count 61 = .ok (.getfield 158, 3) := by decide +kernel
theorem dX10_count_64 : decode cX10_count 64 = .ok (.ireturn, 1) := by decide +kernel
theorem dX10_count_65 : decode cX10_count 65 = .ok (.aload_n 0, 1) := by decide +kernel
theorem dX10_count_66 : decode cX10_count 66 = .ok (.getfield 10, 3) := by decide +kernel
theorem dX10_count_69 : decode cX10_count 69 = .ok (.invokevirtual 382, 3) := by decide +kernel
theorem dX10_count_72 : decode cX10_count 72 = .ok (.ireturn, 1) := by decide +kernel
theorem dX10_count_73 : decode cX10_count 73 = .ok (.aload_n 0, 1) := by decide +kernel
theorem dX10_count_74 : decode cX10_count 74 = .ok (.getfield 10, 3) := by decide +kernel
theorem dX10_count_77 : decode cX10_count 77 = .ok (.invokevirtual 87, 3) := by decide +kernel
theorem dX10_count_80 : decode cX10_count 80 = .ok (.ireturn, 1) := by decide +kernel
theorem dX10_count_81 : decode cX10_count 81 = .ok (.aload_n 0, 1) := by decide +kernel
theorem dX10_count_82 : decode cX10_count 82 = .ok (.getfield 51, 3) := by decide +kernel
theorem dX10_count_85 : decode cX10_count 85 = .ok (.getfield 151, 3) := by decide +kernel
theorem dX10_count_88 : decode cX10_count 88 = .ok (.ireturn, 1) := by decide +kernel
theorem dX10_count_89 : decode cX10_count 89 = .ok (.aload_n 0, 1) := by decide +kernel
theorem dX10_count_90 : decode cX10_count 90 = .ok (.getfield 63, 3) := by decide +kernel
theorem dX10_count_93 : decode cX10_count 93 = .ok (.iconst 0, 1) := by decide +kernel
theorem dX10_count_94 : decode cX10_count 94 = .ok (.aaload, 1) := by decide +kernel
theorem dX10_count_95 : decode cX10_count 95 = .ok (.invokevirtual 363, 3) := by decide +kernel
theorem dX10_count_98 : decode cX10_count 98 = .ok (.ifCond .eq 8, 3) := by decide +kernel
theorem dX10_count_101 : decode cX10_count 101 = .ok (.bipush (-4), 2) := by decide +kernel
theorem dX10_count_103 : decode cX10_count 103 = .ok (.goto 12, 3) := by decide +kernel
theorem dX10_count_106 : decode cX10_count 106 = .ok (.aload_n 0, 1) := by decide +kernel
theorem dX10_count_107 : decode cX10_count 107 = .ok (.getfield 63, 3) := by decide +kernel
theorem dX10_count_110 : decode cX10_count 110 = .ok (.iconst 0, 1) := by decide +kernel
theorem dX10_count_111 : decode cX10_count 111 = .ok (.aaload, 1) := by decide +kernel
theorem dX10_count_112 : decode cX10_count 112 = .ok (.getfield 385, 3) := by decide +kernel
theorem dX10_count_115 : decode cX10_count 115 = .ok (.ireturn, 1) := by decide +kernel
theorem dX10_count_116 : decode cX10_count 116 = .ok (.iconst (-1), 1) := by decide +kernel
theorem dX10_count_117 : decode cX10_count 117 = .ok (.ireturn, 1) := by decide +kernel
theorem dX10_isIn_0 : decode cX10_isIn 0 = .ok (.iload_n 0, 1) := by decide +kernel
theorem dX10_isIn_1 : decode cX10_isIn 1 = .ok (.iload_n 1, 1) := by decide +kernel
theorem dX10_isIn_2 : decode cX10_isIn 2 = .ok (.if_icmp .lt 12, 3) := by decide +kernel
theorem dX10_isIn_5 : decode cX10_isIn 5 = .ok (.iload_n 0, 1) := by decide +kernel
theorem dX10_isIn_6 : decode cX10_isIn 6 = .ok (.iload_n 2, 1) := by decide +kernel
theorem dX10_isIn_7 : decode cX10_isIn 7 = .ok (.if_icmp .gt 7, 3) := by decide +kernel
theorem dX10_isIn_10 : decode cX10_isIn 10 = .ok (.iconst 1, 1) := by decide +kernel
theorem dX10_isIn_11 : decode cX10_isIn 11 = .ok (.goto 4, 3) := by decide +kernel
theorem dX10_isIn_14 : decode cX10_isIn 14 = .ok (.iconst 0, 1) := by decide +kernel
theorem dX10_isIn_15 : decode cX10_isIn 15 = .ok (.ireturn, 1) := by decide +kernel
theorem dX10_isEach_0 : decode cX10_isEach 0 = .ok (.iload_n 0, 1) := by decide +kernel
theorem dX10_isEach_1 : decode cX10_isEach 1 = .ok (.bipush 10, 2) := by decide +kernel
theorem dX10_isEach_3 : decode cX10_isEach 3 = .ok (.if_icmp .lt 15, 3) := by decide +kernel
theorem dX10_isEach_6 : decode cX10_isEach 6 = .ok (.iload_n 0, 1) := by decide +kernel
theorem dX10_isEach_7 : decode cX10_isEach 7 = .ok (.bipush 10, 2) := by decide +kernel
theorem dX10_isEach_9 : decode cX10_isEach 9 = .ok (.isub, 1) := by decide +kernel
theorem dX10_isEach_10 : decode cX10_isEach 10 = .ok (.iload_n 1, 1) := by decide +kernel
theorem dX10_isEach_11 : decode cX10_isEach 11 = .ok (.if_icmp .ge 7, 3) := by decide +kernel
theorem dX10_isEach_14 : decode cX10_isEach 14 = .ok (.iconst 1, 1) := by decide +kernel
theorem dX10_isEach_15 : decode cX10_isEach 15 = .ok (.goto 4, 3) := by decide +kernel
theorem dX10_isEach_18 : decode cX10_isEach 18 = .ok (.iconst 0, 1) := by decide +kernel
theorem dX10_isEach_19 : decode cX10_isEach 19 = .ok (.ireturn, 1) := by decide +kernel
theorem dX10_isPost_0 : decode cX10_isPost 0 = .ok (.iload_n 1, 1) := by decide +kernel
theorem dX10_isPost_1 : decode cX10_isPost 1 = .ok (.ifCond .lt 18, 3) := by decide +kernel
theorem dX10_isPost_4 : decode cX10_isPost 4 = .ok (.iload_n 1, 1) := by decide +kernel
theorem dX10_isPost_5 : decode cX10_isPost 5 = .ok (.aload_n 0, 1) := by decide +kernel
theorem dX10_isPost_6 : decode cX10_isPost 6 = .ok (.getfield 10, 3) := by decide +kernel
theorem dX10_isPost_9 : decode cX10_isPost 9 = .ok (.getfield 84, 3) := by decide +kernel
theorem dX10_isPost_12 : decode cX10_isPost 12 = .ok (.if_icmp .ge 7, 3) := by decide +kernel
theorem dX10_isPost_15 : decode cX10_isPost 15 = .ok (.iconst 1, 1) := by decide +kernel
theorem dX10_isPost_16 : decode cX10_isPost 16 = .ok (.goto 4, 3) := by decide +kernel
theorem dX10_isPost_19 : decode cX10_isPost 19 = .ok (.iconst 0, 1) := by decide +kernel
theorem dX10_isPost_20 : decode cX10_isPost 20 = .ok (.ireturn, 1) := by decide +kernel
theorem dX10_isGuest_0 : decode cX10_isGuest 0 = .ok (.iload_n 1, 1) := by decide +kernel
theorem dX10_isGuest_1 : decode cX10_isGuest 1 = .ok (.ifCond .lt 18, 3) := by decide +kernel
theorem dX10_isGuest_4 : decode cX10_isGuest 4 = .ok (.iload_n 1, 1) := by decide +kernel
theorem dX10_isGuest_5 : decode cX10_isGuest 5 = .ok (.aload_n 0, 1) := by decide +kernel
theorem dX10_isGuest_6 : decode cX10_isGuest 6 = .ok (.getfield 10, 3) := by decide +kernel
theorem dX10_isGuest_9 : decode cX10_isGuest 9 = .ok (.getfield 95, 3) := by decide +kernel
theorem dX10_isGuest_12 : decode cX10_isGuest 12 = .ok (.if_icmp .ge 7, 3) := by decide +kernel
theorem dX10_isGuest_15 : decode cX10_isGuest 15 = .ok (.iconst 1, 1) := by decide +kernel
theorem dX10_isGuest_16 : decode cX10_isGuest 16 = .ok (.goto 4, 3) := by decide +kernel
theorem dX10_isGuest_19 : decode cX10_isGuest 19 = .ok (.iconst 0, 1) := by decide +kernel
theorem dX10_isGuest_20 : decode cX10_isGuest 20 = .ok (.ireturn, 1) := by decide +kernel
theorem dX10_isRule_0 : decode cX10_isRule 0 = .ok (.iload_n 1, 1) := by decide +kernel
theorem dX10_isRule_1 : decode cX10_isRule 1 = .ok (.ifCond .lt 15, 3) := by decide +kernel
theorem dX10_isRule_4 : decode cX10_isRule 4 = .ok (.iload_n 1, 1) := by decide +kernel
theorem dX10_isRule_5 : decode cX10_isRule 5 = .ok (.aload_n 0, 1) := by decide +kernel
theorem dX10_isRule_6 : decode cX10_isRule 6 = .ok (.getfield 158, 3) := by decide +kernel
theorem dX10_isRule_9 : decode cX10_isRule 9 = .ok (.if_icmp .ge 7, 3) := by decide +kernel
theorem dX10_isRule_12 : decode cX10_isRule 12 = .ok (.iconst 1, 1) := by decide +kernel
theorem dX10_isRule_13 : decode cX10_isRule 13 = .ok (.goto 4, 3) := by decide +kernel
theorem dX10_isRule_16 : decode cX10_isRule 16 = .ok (.iconst 0, 1) := by decide +kernel
theorem dX10_isRule_17 : decode cX10_isRule 17 = .ok (.ireturn, 1) := by decide +kernel
theorem dX10_isSheet_0 : decode cX10_isSheet 0 = .ok (.iload_n 0, 1) := by decide +kernel
theorem dX10_isSheet_1 : decode cX10_isSheet 1 = .ok (.ifCond .lt 12, 3) := by decide +kernel
theorem dX10_isSheet_4 : decode cX10_isSheet 4 = .ok (.iload_n 0, 1) := by decide +kernel
theorem dX10_isSheet_5 : decode cX10_isSheet 5 = .ok (.iconst 4, 1) := by decide +kernel
theorem dX10_isSheet_6 : decode cX10_isSheet 6 = .ok (.if_icmp .ge 7, 3) := by decide +kernel
theorem dX10_isSheet_9 : decode cX10_isSheet 9 = .ok (.iconst 1, 1) := by decide +kernel
theorem dX10_isSheet_10 : decode cX10_isSheet 10 = .ok (.goto 4, 3) := by decide +kernel
theorem dX10_isSheet_13 : decode cX10_isSheet 13 = .ok (.iconst 0, 1) := by decide +kernel
theorem dX10_isSheet_14 : decode cX10_isSheet 14 = .ok (.ireturn, 1) := by decide +kernel
theorem dX10_readOrder_0 : decode cX10_readOrder 0 = .ok (.iload_n 1, 1) := by decide +kernel
theorem dX10_readOrder_1 : decode cX10_readOrder 1 = .ok (.ifCond .ge 5, 3) := by decide +kernel
theorem dX10_readOrder_4 : decode cX10_readOrder 4 = .ok (.iconst 0, 1) := by decide +kernel
theorem dX10_readOrder_5 : decode cX10_readOrder 5 = .ok (.ireturn, 1) := by decide +kernel
theorem dX10_readOrder_6 : decode cX10_readOrder 6 = .ok (.iload_n 1, 1) := by decide +kernel
theorem dX10_readOrder_7 : decode cX10_readOrder 7 = .ok (.istore_n 2, 1) := by decide +kernel
theorem dX10_readOrder_8 : decode cX10_readOrder 8 = .ok (.iconst 0, 1) := by decide +kernel
theorem dX10_readOrder_9 : decode cX10_readOrder 9 = .ok (.istore_n 3, 1) := by decide +kernel
theorem dX10_readOrder_10 : decode cX10_readOrder 10 = .ok (.aload_n 0, 1) := by decide +kernel
theorem dX10_readOrder_11 : decode cX10_readOrder 11 = .ok (.getfield 10, 3) := by decide +kernel
theorem dX10_readOrder_14 : decode cX10_readOrder 14 = .ok (.getfield 95, 3) := by decide +kernel
theorem dX10_readOrder_17 : decode cX10_readOrder 17 = .ok (.iconst 1, 1) := by decide +kernel
theorem dX10_readOrder_18 : decode cX10_readOrder 18 = .ok (.isub, 1) := by decide +kernel
theorem dX10_readOrder_19 : decode cX10_readOrder 19 = .ok (.istore 4, 2) := by decide +kernel
theorem dX10_readOrder_21 : decode cX10_readOrder 21 = .ok (.iload 4, 2) := by decide +kernel
theorem dX10_readOrder_23 : decode cX10_readOrder 23 = .ok (.ifCond .lt 59, 3) := by decide +kernel
theorem dX10_readOrder_26 : decode cX10_readOrder 26 = .ok (.iload_n 2, 1) := by decide +kernel
theorem dX10_readOrder_27 : decode cX10_readOrder 27 = .ok (.bipush 10, 2) := by decide +kernel
theorem dX10_readOrder_29 : decode cX10_readOrder 29 = .ok (.irem, 1) := by decide +kernel
theorem dX10_readOrder_30 : decode cX10_readOrder 30 = .ok (.istore 5, 2) := by decide +kernel
theorem dX10_readOrder_32 : decode cX10_readOrder 32 = .ok (.iload_n 2, 1) := by decide +kernel
theorem dX10_readOrder_33 : decode cX10_readOrder 33 = .ok (.bipush 10, 2) := by decide +kernel
theorem dX10_readOrder_35 : decode cX10_readOrder 35 = .ok (.idiv, 1) := by decide +kernel
theorem dX10_readOrder_36 : decode cX10_readOrder 36 = .ok (.istore_n 2, 1) := by decide +kernel
theorem dX10_readOrder_37 : decode cX10_readOrder 37 = .ok (.iload 5, 2) := by decide +kernel
theorem dX10_readOrder_39 : decode cX10_readOrder 39 = .ok (.aload_n 0, 1) := by decide +kernel
theorem dX10_readOrder_40 : decode cX10_readOrder 40 = .ok (.getfield 10, 3) := by decide +kernel
theorem dX10_readOrder_43 : decode cX10_readOrder 43 = .ok (.getfield 95, 3) := by decide +kernel
theorem dX10_readOrder_46 : decode cX10_readOrder 46 = .ok (.if_icmp .ge 12, 3) := by decide +kernel
theorem dX10_readOrder_49 : decode cX10_readOrder 49 = .ok (.iload_n 3, 1) := by decide +kernel
theorem dX10_readOrder_50 : decode cX10_readOrder 50 = .ok (.iload 5, 2) := by decide +kernel
theorem dX10_readOrder_52 : decode cX10_readOrder 52 = .ok (.ishr, 1) := by decide +kernel
theorem dX10_readOrder_53 : decode cX10_readOrder 53 = .ok (.iconst 1, 1) := by decide +kernel
theorem dX10_readOrder_54 : decode cX10_readOrder 54 = .ok (.iand, 1) := by decide +kernel
theorem dX10_readOrder_55 : decode cX10_readOrder 55 = .ok (.ifCond .eq 5, 3) := by decide +kernel
theorem dX10_readOrder_58 : decode cX10_readOrder 58 = .ok (.iconst 0, 1) := by decide +kernel
theorem dX10_readOrder_59 : decode cX10_readOrder 59 = .ok (.ireturn, 1) := by decide +kernel
theorem dX10_readOrder_60 : decode cX10_readOrder 60 = .ok (.iload_n 3, 1) := by decide +kernel
theorem dX10_readOrder_61 : decode cX10_readOrder 61 = .ok (.iconst 1, 1) := by decide +kernel
theorem dX10_readOrder_62 : decode cX10_readOrder 62 = .ok (.iload 5, 2) := by decide +kernel
theorem dX10_readOrder_64 : decode cX10_readOrder 64 = .ok (.ishl, 1) := by decide +kernel
theorem dX10_readOrder_65 : decode cX10_readOrder 65 = .ok (.ior, 1) := by decide +kernel
theorem dX10_readOrder_66 : decode cX10_readOrder 66 = .ok (.istore_n 3, 1) := by decide +kernel
theorem dX10_readOrder_67 : decode cX10_readOrder 67 = .ok (.aload_n 0, 1) := by decide +kernel
theorem dX10_readOrder_68 : decode cX10_readOrder 68 = .ok (.getfield 67, 3) := by decide +kernel
theorem dX10_readOrder_71 : decode cX10_readOrder 71 = .ok (.iload 4, 2) := by decide +kernel
theorem dX10_readOrder_73 : decode cX10_readOrder 73 = .ok (.iload 5, 2) := by decide +kernel
theorem dX10_readOrder_75 : decode cX10_readOrder 75 = .ok (.iastore, 1) := by decide +kernel
theorem dX10_readOrder_76 : decode cX10_readOrder 76 = .ok (.iinc 4 (-1), 3) := by decide +kernel
theorem dX10_readOrder_79 : decode cX10_readOrder 79 = .ok (.goto (-58), 3) := by decide +kernel
theorem dX10_readOrder_82 : decode cX10_readOrder 82 = .ok (.iload_n 2, 1) := by decide +kernel
theorem dX10_readOrder_83 : decode cX10_readOrder 83 = .ok (.ifCond .ne 7, 3) := by decide +kernel
theorem dX10_readOrder_86 : decode cX10_readOrder 86 = .ok (.iconst 1, 1) := by decide +kernel
theorem dX10_readOrder_87 : decode cX10_readOrder 87 = .ok (.goto 4, 3) := by decide +kernel
theorem dX10_readOrder_90 : decode cX10_readOrder 90 = .ok (.iconst 0, 1) := by decide +kernel
theorem dX10_readOrder_91 : decode cX10_readOrder 91 = .ok (.ireturn, 1) := by decide +kernel
theorem dX10_readPrices_0 : decode cX10_readPrices 0 = .ok (.lload_n 1, 1) := by decide +kernel
theorem dX10_readPrices_1 : decode cX10_readPrices 1 = .ok (.lconst 0, 1) := by decide +kernel
theorem dX10_readPrices_2 : decode cX10_readPrices 2 = .ok (.lcmp, 1) := by decide +kernel
theorem dX10_readPrices_3 : decode cX10_readPrices 3 = .ok (.ifCond .ge 5, 3) := by decide +kernel
theorem dX10_readPrices_6 : decode cX10_readPrices 6 = .ok (.iconst 0, 1) := by decide +kernel
theorem dX10_readPrices_7 : decode cX10_readPrices 7 = .ok (.ireturn, 1) := by decide +kernel
theorem dX10_readPrices_8 : decode cX10_readPrices 8 = .ok (.lload_n 1, 1) := by decide +kernel
theorem dX10_readPrices_9 : decode cX10_readPrices 9 = .ok (.lstore_n 3, 1) := by decide +kernel
theorem dX10_readPrices_10 : decode cX10_readPrices 10 = .ok (.iconst 0, 1) := by decide +kernel
theorem dX10_readPrices_11 : decode cX10_readPrices 11 = .ok (.istore 5, 2) := by decide +kernel
theorem dX10_readPrices_13 : decode cX10_readPrices 13 = .ok (.iload 5, 2) := by decide +kernel
theorem dX10_readPrices_15 : decode cX10_readPrices 15 = .ok (.aload_n 0, 1) := by decide +kernel
theorem dX10_readPrices_16 : decode cX10_readPrices 16 = .ok (.getfield 10, 3) := by decide +kernel
theorem dX10_readPrices_19 : decode cX10_readPrices 19 = .ok (.getfield 84, 3) := by decide +kernel
theorem dX10_readPrices_22 : decode cX10_readPrices 22 = .ok (.if_icmp .ge 28, 3) := by decide +kernel
theorem dX10_readPrices_25 : decode cX10_readPrices 25 = .ok (.aload_n 0, 1) := by decide +kernel
theorem dX10_readPrices_26 : decode cX10_readPrices 26 = .ok (.getfield 71, 3) := by decide +kernel
theorem dX10_readPrices_29 : decode cX10_readPrices 29 = .ok (.iload 5, 2) := by decide +kernel
theorem dX10_readPrices_31 : decode cX10_readPrices 31 = .ok (.lload_n 3, 1) := by decide +kernel
theorem dX10_readPrices_32 : decode cX10_readPrices 32 = .ok (.ldc2_w 388, 3) := by decide +kernel
theorem dX10_readPrices_35 : decode cX10_readPrices 35 = .ok (.lrem, 1) := by decide +kernel
theorem dX10_readPrices_36 : decode cX10_readPrices 36 = .ok (.l2i, 1) := by decide +kernel
theorem dX10_readPrices_37 : decode cX10_readPrices 37 = .ok (.iastore, 1) := by decide +kernel
theorem dX10_readPrices_38 : decode cX10_readPrices 38 = .ok (.lload_n 3, 1) := by decide +kernel
theorem dX10_readPrices_39 : decode cX10_readPrices 39 = .ok (.ldc2_w 388, 3) := by decide +kernel
theorem dX10_readPrices_42 : decode cX10_readPrices 42 = .ok (.ldiv, 1) := by decide +kernel
theorem dX10_readPrices_43 : decode cX10_readPrices 43 = .ok (.lstore_n 3, 1) := by decide +kernel
theorem dX10_readPrices_44 : decode cX10_readPrices 44 = .ok (.iinc 5 1, 3) := by decide +kernel
theorem dX10_readPrices_47 : decode cX10_readPrices 47 = .ok (.goto (-34), 3) := by decide +kernel
theorem dX10_readPrices_50 : decode cX10_readPrices 50 = .ok (.lload_n 3, 1) := by decide +kernel
theorem dX10_readPrices_51 : decode cX10_readPrices 51 = .ok (.lconst 0, 1) := by decide +kernel
theorem dX10_readPrices_52 : decode cX10_readPrices 52 = .ok (.lcmp, 1) := by decide +kernel
theorem dX10_readPrices_53 : decode cX10_readPrices 53 = .ok (.ifCond .ne 7, 3) := by decide +kernel
theorem dX10_readPrices_56 : decode cX10_readPrices 56 = .ok (.iconst 1, 1) := by decide +kernel
theorem dX10_readPrices_57 : decode cX10_readPrices 57 = .ok (.goto 4, 3) := by decide +kernel
theorem dX10_readPrices_60 : decode cX10_readPrices 60 = .ok (.iconst 0, 1) := by decide +kernel
theorem dX10_readPrices_61 : decode cX10_readPrices 61 = .ok (.ireturn, 1) := by decide +kernel
theorem dX10_readWorths_0 : decode cX10_readWorths 0 = .ok (.iconst 0, 1) := by decide +kernel
theorem dX10_readWorths_1 : decode cX10_readWorths 1 = .ok (.istore_n 3, 1) := by decide +kernel
theorem dX10_readWorths_2 : decode cX10_readWorths 2 = .ok (.iload_n 2, 1) := by decide +kernel
theorem dX10_readWorths_3 : decode cX10_readWorths 3 = .ok (.istore 4, 2) := by decide +kernel
theorem dX10_readWorths_5 : decode cX10_readWorths 5 = .ok (.iconst 0, 1) := by decide +kernel
theorem dX10_readWorths_6 : decode cX10_readWorths 6 = .ok (.istore 5, 2) := by decide +kernel
theorem dX10_readWorths_8 : decode cX10_readWorths 8 = .ok (.iload 5, 2) := by decide +kernel
theorem dX10_readWorths_10 : decode cX10_readWorths 10 = .ok (.aload_n 0, 1) := by decide +kernel
theorem dX10_readWorths_11 : decode cX10_readWorths 11 = .ok (.getfield 10, 3) := by decide +kernel
theorem dX10_readWorths_14 : decode cX10_readWorths 14 = .ok (.getfield 95, 3) := by decide +kernel
theorem dX10_readWorths_17 : decode cX10_readWorths 17 = .ok (.if_icmp .ge 75, 3) := by decide +kernel
theorem dX10_readWorths_20 : decode cX10_readWorths 20 = .ok (.iconst 0, 1) := by decide +kernel
theorem dX10_readWorths_21 : decode cX10_readWorths 21 = .ok (.istore 6, 2) := by decide +kernel
theorem dX10_readWorths_23 : decode cX10_readWorths 23 = .ok (.iload 6, 2) := by decide +kernel
theorem dX10_readWorths_25 : decode cX10_readWorths 25 = .ok (.aload_n 0, 1) := by decide +kernel
theorem dX10_readWorths_26 : decode cX10_readWorths 26 = .ok (.getfield 10, 3) := by decide +kernel
theorem dX10_readWorths_29 : decode cX10_readWorths 29 = .ok (.getfield 84, 3) := by decide +kernel
theorem dX10_readWorths_32 : decode cX10_readWorths 32 = .ok (.if_icmp .ge 54, 3) := by decide +kernel
theorem dX10_readWorths_35 : decode cX10_readWorths 35 = .ok (.aload_n 0, 1) := by decide +kernel
theorem dX10_readWorths_36 : decode cX10_readWorths 36 = .ok (.getfield 10, 3) := by decide +kernel
theorem dX10_readWorths_39 : decode cX10_readWorths 39 = .ok (.iload 5, 2) := by decide +kernel
theorem dX10_readWorths_41 : decode cX10_readWorths 41 = .ok (.iload 6, 2) := by decide +kernel
theorem dX10_readWorths_43 : decode cX10_readWorths 43 = .ok (.invokevirtual 111, 3) := by decide +kernel
theorem dX10_readWorths_46 : decode cX10_readWorths 46 = .ok (.aload_n 1, 1) := by decide +kernel
theorem dX10_readWorths_47 : decode cX10_readWorths 47 = .ok (.getfield 375, 3) := by decide +kernel
theorem dX10_readWorths_50 : decode cX10_readWorths 50 = .ok (.iload 4, 2) := by decide +kernel
theorem dX10_readWorths_52 : decode cX10_readWorths 52 = .ok (.iaload, 1) := by decide +kernel
theorem dX10_readWorths_53 : decode cX10_readWorths 53 = .ok (.if_icmp .eq 24, 3) := by decide +kernel
theorem dX10_readWorths_56 : decode cX10_readWorths 56 = .ok (.aload_n 0, 1) := by decide +kernel
theorem dX10_readWorths_57 : decode cX10_readWorths 57 = .ok (.getfield 10, 3) := by decide +kernel
theorem dX10_readWorths_60 : decode cX10_readWorths 60 = .ok (.iload 5, 2) := by decide +kernel
theorem dX10_readWorths_62 : decode cX10_readWorths 62 = .ok (.iload 6, 2) := by decide +kernel
theorem dX10_readWorths_64 : decode cX10_readWorths 64 = .ok (.aload_n 1, 1) := by decide +kernel
theorem dX10_readWorths_65 : decode cX10_readWorths 65 = .ok (.getfield 375, 3) := by decide +kernel
theorem dX10_readWorths_68 : decode cX10_readWorths 68 = .ok (.iload 4, 2) := by decide +kernel
theorem dX10_readWorths_70 : decode cX10_readWorths 70 = .ok (.iaload, 1) := by decide +kernel
theorem dX10_readWorths_71 : decode cX10_readWorths 71 = .ok (.invokevirtual 115, 3) := by decide +kernel
theorem dX10_readWorths_74 : decode cX10_readWorths 74 = .ok (.iinc 3 1, 3) := by decide +kernel
theorem dX10_readWorths_77 : decode cX10_readWorths 77 = .ok (.iinc 4 1, 3) := by decide +kernel
theorem dX10_readWorths_80 : decode cX10_readWorths 80 = .ok (.iinc 6 1, 3) := by decide +kernel
theorem dX10_readWorths_83 : decode cX10_readWorths 83 = .ok (.goto (-60), 3) := by decide +kernel
theorem dX10_readWorths_86 : decode cX10_readWorths 86 = .ok (.iinc 5 1, 3) := by decide +kernel
theorem dX10_readWorths_89 : decode cX10_readWorths 89 = .ok (.goto (-81), 3) := by decide +kernel
theorem dX10_readWorths_92 : decode cX10_readWorths 92 = .ok (.iload_n 3, 1) := by decide +kernel
theorem dX10_readWorths_93 : decode cX10_readWorths 93 = .ok (.ireturn, 1) := by decide +kernel
theorem dX10_meanOverOrders_0 : decode cX10_meanOverOrders 0 = .ok (.aload_n 1, 1) := by decide +kernel
theorem dX10_meanOverOrders_1 : decode cX10_meanOverOrders 1 = .ok (.getfield 390, 3) := by decide +kernel
theorem dX10_meanOverOrders_4 : decode cX10_meanOverOrders 4 = .ok (.astore_n 2, 1) := by decide +kernel
theorem dX10_meanOverOrders_5 : decode cX10_meanOverOrders 5 = .ok (.aload_n 2, 1) := by decide +kernel
theorem dX10_meanOverOrders_6 : decode cX10_meanOverOrders 6 = .ok (.aload_n 0, 1) := by decide +kernel
theorem dX10_meanOverOrders_7 : decode cX10_meanOverOrders 7 = .ok (.getfield 10, 3) := by decide +kernel
theorem dX10_meanOverOrders_10 : decode cX10_meanOverOrders 10 = .ok (.getfield 276, 3) := by decide +kernel
theorem dX10_meanOverOrders_13 : decode cX10_meanOverOrders 13 = .ok (.invokevirtual 279, 3) := by decide +kernel
theorem dX10_meanOverOrders_16 : decode cX10_meanOverOrders 16 = .ok (.ifCond .eq 31, 3) := by decide +kernel
theorem dX10_meanOverOrders_19 : decode cX10_meanOverOrders 19 = .ok (.aload_n 2, 1) := by decide +kernel
theorem dX10_meanOverOrders_20 : decode cX10_meanOverOrders 20 = .ok (.aload_n 0, 1) := by decide +kernel
theorem dX10_meanOverOrders_21 : decode cX10_meanOverOrders 21 = .ok (.getfield 10, 3) := by decide +kernel
theorem dX10_meanOverOrders_24 : decode cX10_meanOverOrders 24 = .ok (.getfield 276, 3) := by decide +kernel
theorem dX10_meanOverOrders_27 : decode cX10_meanOverOrders 27 = .ok (.invokevirtual 282, 3) := by decide +kernel
theorem dX10_meanOverOrders_30 : decode cX10_meanOverOrders 30 = .ok (.aload_n 0, 1) := by decide +kernel
theorem dX10_meanOverOrders_31 : decode cX10_meanOverOrders 31 = .ok (.getfield 25, 3) := by decide +kernel
theorem dX10_meanOverOrders_34 : decode cX10_meanOverOrders 34 = .ok (.invokevirtual 219, 3) := by decide +kernel
theorem dX10_meanOverOrders_37 : decode cX10_meanOverOrders 37 = .ok (.aload_n 0, 1) := by decide +kernel
theorem dX10_meanOverOrders_38 : decode cX10_meanOverOrders 38 = .ok (.getfield 25, 3) := by decide +kernel
theorem dX10_meanOverOrders_41 : decode cX10_meanOverOrders 41 = .ok (.aload_n 1, 1) := by decide +kernel
theorem dX10_meanOverOrders_42 : decode cX10_meanOverOrders 42 = .ok (.aload_n 2, 1) := by decide +kernel
theorem dX10_meanOverOrders_43 : decode cX10_meanOverOrders 43 = .ok (.iconst 0, 1) := by decide +kernel
theorem dX10_meanOverOrders_44 : decode cX10_meanOverOrders 44 = .ok (.invokestatic 393, 3) := by decide +kernel
theorem dX10_meanOverOrders_47 : decode cX10_meanOverOrders 47 = .ok (.aload_n 2, 1) := by decide +kernel
theorem dX10_meanOverOrders_48 : decode cX10_meanOverOrders 48 = .ok (.areturn, 1) := by decide +kernel
theorem dX10_overOrders_0 : decode cX10_overOrders 0 = .ok (.aload_n 0, 1) := by decide +kernel
theorem dX10_overOrders_1 : decode cX10_overOrders 1 = .ok (.getfield 396, 3) := by decide +kernel
theorem dX10_overOrders_4 : decode cX10_overOrders 4 = .ok (.getfield 95, 3) := by decide +kernel
theorem dX10_overOrders_7 : decode cX10_overOrders 7 = .ok (.istore 4, 2) := by decide +kernel
theorem dX10_overOrders_9 : decode cX10_overOrders 9 = .ok (.iload_n 3, 1) := by decide +kernel
theorem dX10_overOrders_10 : decode cX10_overOrders 10 = .ok (.iload 4, 2) := by decide +kernel
theorem dX10_overOrders_12 : decode cX10_overOrders 12 = .ok (.if_icmp .ge 9, 3) := by decide +kernel
theorem dX10_overOrders_15 : decode cX10_overOrders 15 = .ok (.iload_n 3, 1) := by decide +kernel
theorem dX10_overOrders_16 : decode cX10_overOrders 16 = .ok (.bipush 6, 2) := by decide +kernel
theorem dX10_overOrders_18 : decode cX10_overOrders 18 = .ok (.if_icmp .lt 12, 3) := by decide +kernel
theorem dX10_overOrders_21 : decode cX10_overOrders 21 = .ok (.aload_n 2, 1) := by decide +kernel
theorem dX10_overOrders_22 : decode cX10_overOrders 22 = .ok (.aload_n 0, 1) := by decide +kernel
theorem dX10_overOrders_23 : decode cX10_overOrders 23 = .ok (.invokevirtual 201, 3) := by decide +kernel
theorem dX10_overOrders_26 : decode cX10_overOrders 26 = .ok (.invokevirtual 397, 3) := by decide +kernel
theorem dX10_overOrders_29 : decode cX10_overOrders 29 = .ok (.return_, 1) := by decide +kernel
theorem dX10_overOrders_30 : decode cX10_overOrders 30 = .ok (.iconst 0, 1) := by decide +kernel
theorem dX10_overOrders_31 : decode cX10_overOrders 31 = .ok (.istore 5, 2) := by decide +kernel
theorem dX10_overOrders_33 : decode cX10_overOrders 33 = .ok (.iload 5, 2) := by decide +kernel
theorem dX10_overOrders_35 : decode cX10_overOrders 35 = .ok (.iload 4, 2) := by decide +kernel
theorem dX10_overOrders_37 : decode cX10_overOrders 37 = .ok (.if_icmp .ge 39, 3) := by decide +kernel
theorem dX10_overOrders_40 : decode cX10_overOrders 40 = .ok (.aload_n 0, 1) := by decide +kernel
theorem dX10_overOrders_41 : decode cX10_overOrders 41 = .ok (.iload 5, 2) := by decide +kernel
theorem dX10_overOrders_43 : decode cX10_overOrders 43 = .ok (.invokevirtual 108, 3) := by decide +kernel
theorem dX10_overOrders_46 : decode cX10_overOrders 46 = .ok (.ifCond .ne 24, 3) := by decide +kernel
theorem dX10_overOrders_49 : decode cX10_overOrders 49 = .ok (.aload_n 0, 1) := by decide +kernel
theorem dX10_overOrders_50 : decode cX10_overOrders 50 = .ok (.iload 5, 2) := by decide +kernel
theorem dX10_overOrders_52 : decode cX10_overOrders 52 = .ok (.aload_n 1, 1) := by decide +kernel
theorem dX10_overOrders_53 : decode cX10_overOrders 53 = .ok (.invokevirtual 222, 3) := by decide +kernel
theorem dX10_overOrders_56 : decode cX10_overOrders 56 = .ok (.pop, 1) := by decide +kernel
theorem dX10_overOrders_57 : decode cX10_overOrders 57 = .ok (.aload_n 0, 1) := by decide +kernel
theorem dX10_overOrders_58 : decode cX10_overOrders 58 = .ok (.aload_n 1, 1) := by decide +kernel
theorem dX10_overOrders_59 : decode cX10_overOrders 59 = .ok (.aload_n 2, 1) := by decide +kernel
theorem dX10_overOrders_60 : decode cX10_overOrders 60 = .ok (.iload_n 3, 1) := by decide +kernel
theorem dX10_overOrders_61 : decode cX10_overOrders 61 = .ok (.iconst 1, 1) := by decide +kernel
theorem dX10_overOrders_62 : decode cX10_overOrders 62 = .ok (.iadd, 1) := by decide +kernel
theorem dX10_overOrders_63 : decode cX10_overOrders 63 = .ok (.invokestatic 393, 3) := by decide +kernel
theorem dX10_overOrders_66 : decode cX10_overOrders 66 = .ok (.aload_n 0, 1) := by decide +kernel
theorem dX10_overOrders_67 : decode cX10_overOrders 67 = .ok (.invokevirtual 354, 3) := by decide +kernel
theorem dX10_overOrders_70 : decode cX10_overOrders 70 = .ok (.iinc 5 1, 3) := by decide +kernel
theorem dX10_overOrders_73 : decode cX10_overOrders 73 = .ok (.goto (-40), 3) := by decide +kernel
theorem dX10_overOrders_76 : decode cX10_overOrders 76 = .ok (.return_, 1) := by decide +kernel
theorem dX10_overRanks_0 : decode cX10_overRanks 0 = .ok (.aload_n 0, 1) := by decide +kernel
theorem dX10_overRanks_1 : decode cX10_overRanks 1 = .ok (.getfield 396, 3) := by decide +kernel
theorem dX10_overRanks_4 : decode cX10_overRanks 4 = .ok (.astore 4, 2) := by decide +kernel
theorem dX10_overRanks_6 : decode cX10_overRanks 6 = .ok (.iload_n 3, 1) := by decide +kernel
theorem dX10_overRanks_7 : decode cX10_overRanks 7 = .ok (.aload 4, 2) := by decide +kernel
theorem dX10_overRanks_9 : decode cX10_overRanks 9 = .ok (.getfield 84, 3) := by decide +kernel
theorem dX10_overRanks_12 : decode cX10_overRanks 12 = .ok (.if_icmp .ge 9, 3) := by decide +kernel
theorem dX10_overRanks_15 : decode cX10_overRanks 15 = .ok (.iload_n 3, 1) := by decide +kernel
theorem dX10_overRanks_16 : decode cX10_overRanks 16 = .ok (.bipush 6, 2) := by decide +kernel
theorem dX10_overRanks_18 : decode cX10_overRanks 18 = .ok (.if_icmp .lt 17, 3) := by decide +kernel
theorem dX10_overRanks_21 : decode cX10_overRanks 21 = .ok (.aload_n 0, 1) := by decide +kernel
theorem dX10_overRanks_22 : decode cX10_overRanks 22 = .ok (.aload_n 1, 1) := by decide +kernel
theorem dX10_overRanks_23 : decode cX10_overRanks 23 = .ok (.invokevirtual 198, 3) := by decide +kernel
theorem dX10_overRanks_26 : decode cX10_overRanks 26 = .ok (.aload_n 2, 1) := by decide +kernel
theorem dX10_overRanks_27 : decode cX10_overRanks 27 = .ok (.aload_n 0, 1) := by decide +kernel
theorem dX10_overRanks_28 : decode cX10_overRanks 28 = .ok (.invokevirtual 201, 3) := by decide +kernel
theorem dX10_overRanks_31 : decode cX10_overRanks 31 = .ok (.invokevirtual 397, 3) := by decide +kernel
theorem dX10_overRanks_34 : decode cX10_overRanks 34 = .ok (.return_, 1) := by decide +kernel
theorem dX10_overRanks_35 : decode cX10_overRanks 35 = .ok (.iload_n 3, 1) := by decide +kernel
theorem dX10_overRanks_36 : decode cX10_overRanks 36 = .ok (.istore 5, 2) := by decide +kernel
theorem dX10_overRanks_38 : decode cX10_overRanks 38 = .ok (.iload 5, 2) := by decide +kernel
theorem dX10_overRanks_40 : decode cX10_overRanks 40 = .ok (.aload 4, 2) := by decide +kernel
theorem dX10_overRanks_42 : decode cX10_overRanks 42 = .ok (.getfield 84, 3) := by decide +kernel
theorem dX10_overRanks_45 : decode cX10_overRanks 45 = .ok (.if_icmp .ge 34, 3) := by decide +kernel
theorem dX10_overRanks_48 : decode cX10_overRanks 48 = .ok (.aload 4, 2) := by decide +kernel
theorem dX10_overRanks_50 : decode cX10_overRanks 50 = .ok (.iload_n 3, 1) := by decide +kernel
theorem dX10_overRanks_51 : decode cX10_overRanks 51 = .ok (.iload 5, 2) := by decide +kernel
theorem dX10_overRanks_53 : decode cX10_overRanks 53 = .ok (.invokevirtual 400, 3) := by decide +kernel
theorem dX10_overRanks_56 : decode cX10_overRanks 56 = .ok (.aload_n 0, 1) := by decide +kernel
theorem dX10_overRanks_57 : decode cX10_overRanks 57 = .ok (.aload_n 1, 1) := by decide +kernel
theorem dX10_overRanks_58 : decode cX10_overRanks 58 = .ok (.aload_n 2, 1) := by decide +kernel
theorem dX10_overRanks_59 : decode cX10_overRanks 59 = .ok (.iload_n 3, 1) := by decide +kernel
theorem dX10_overRanks_60 : decode cX10_overRanks 60 = .ok (.iconst 1, 1) := by decide +kernel
theorem dX10_overRanks_61 : decode cX10_overRanks 61 = .ok (.iadd, 1) := by decide +kernel
theorem dX10_overRanks_62 : decode cX10_overRanks 62 = .ok (.invokestatic 293, 3) := by decide +kernel
theorem dX10_overRanks_65 : decode cX10_overRanks 65 = .ok (.aload 4, 2) := by decide +kernel
theorem dX10_overRanks_67 : decode cX10_overRanks 67 = .ok (.iload_n 3, 1) := by decide +kernel
theorem dX10_overRanks_68 : decode cX10_overRanks 68 = .ok (.iload 5, 2) := by decide +kernel
theorem dX10_overRanks_70 : decode cX10_overRanks 70 = .ok (.invokevirtual 400, 3) := by decide +kernel
theorem dX10_overRanks_73 : decode cX10_overRanks 73 = .ok (.iinc 5 1, 3) := by decide +kernel
theorem dX10_overRanks_76 : decode cX10_overRanks 76 = .ok (.goto (-38), 3) := by decide +kernel
theorem dX10_overRanks_79 : decode cX10_overRanks 79 = .ok (.return_, 1) := by decide +kernel
theorem dX10_searchNets_0 : decode cX10_searchNets 0 = .ok (.aload_n 0, 1) := by decide +kernel
theorem dX10_searchNets_1 : decode cX10_searchNets 1 = .ok (.getfield 28, 3) := by decide +kernel
theorem dX10_searchNets_4 : decode cX10_searchNets 4 = .ok (.iload_n 2, 1) := by decide +kernel
theorem dX10_searchNets_5 : decode cX10_searchNets 5 = .ok (.invokevirtual 403, 3) := by decide +kernel
theorem dX10_searchNets_8 : decode cX10_searchNets 8 = .ok (.iconst 1, 1) := by decide +kernel
theorem dX10_searchNets_9 : decode cX10_searchNets 9 = .ok (.iload_n 2, 1) := by decide +kernel
theorem dX10_searchNets_10 : decode cX10_searchNets 10 = .ok (.iload_n 2, 1) := by decide +kernel
theorem dX10_searchNets_11 : decode cX10_searchNets 11 = .ok (.imul, 1) := by decide +kernel
theorem dX10_searchNets_12 : decode cX10_searchNets 12 = .ok (.ishl, 1) := by decide +kernel
theorem dX10_searchNets_13 : decode cX10_searchNets 13 = .ok (.istore 4, 2) := by decide +kernel
theorem dX10_searchNets_15 : decode cX10_searchNets 15 = .ok (.iconst 1, 1) := by decide +kernel
theorem dX10_searchNets_16 : decode cX10_searchNets 16 = .ok (.istore 5, 2) := by decide +kernel
theorem dX10_searchNets_18 : decode cX10_searchNets 18 = .ok (.iload 5, 2) := by decide +kernel
theorem dX10_searchNets_20 : decode cX10_searchNets 20 = .ok (.iload 4, 2) := by decide +kernel
theorem dX10_searchNets_22 : decode cX10_searchNets 22 = .ok (.if_icmp .ge 52, 3) := by decide +kernel
theorem dX10_searchNets_25 : decode cX10_searchNets 25 = .ok (.aload_n 0, 1) := by decide +kernel
theorem dX10_searchNets_26 : decode cX10_searchNets 26 = .ok (.getfield 28, 3) := by decide +kernel
theorem dX10_searchNets_29 : decode cX10_searchNets 29 = .ok (.iload 5, 2) := by decide +kernel
theorem dX10_searchNets_31 : decode cX10_searchNets 31 = .ok (.invokevirtual 406, 3) := by decide +kernel
theorem dX10_searchNets_34 : decode cX10_searchNets 34 = .ok (.aload_n 0, 1) := by decide +kernel
theorem dX10_searchNets_35 : decode cX10_searchNets 35 = .ok (.getfield 31, 3) := by decide +kernel
theorem dX10_searchNets_38 : decode cX10_searchNets 38 = .ok (.aload_n 1, 1) := by decide +kernel
theorem dX10_searchNets_39 : decode cX10_searchNets 39 = .ok (.invokevirtual 198, 3) := by decide +kernel
theorem dX10_searchNets_42 : decode cX10_searchNets 42 = .ok (.aload_n 3, 1) := by decide +kernel
theorem dX10_searchNets_43 : decode cX10_searchNets 43 = .ok (.aload_n 0, 1) := by decide +kernel
theorem dX10_searchNets_44 : decode cX10_searchNets 44 = .ok (.getfield 31, 3) := by decide +kernel
theorem dX10_searchNets_47 : decode cX10_searchNets 47 = .ok (.invokevirtual 201, 3) := by decide +kernel
theorem dX10_searchNets_50 : decode cX10_searchNets 50 = .ok (.aload_n 0, 1) := by decide +kernel
theorem dX10_searchNets_51 : decode cX10_searchNets 51 = .ok (.getfield 37, 3) := by decide +kernel
theorem dX10_searchNets_54 : decode cX10_searchNets 54 = .ok (.aload_n 0, 1) := by decide +kernel
theorem dX10_searchNets_55 : decode cX10_searchNets 55 = .ok (.getfield 28, 3) := by decide +kernel
theorem dX10_searchNets_58 : decode cX10_searchNets 58 = .ok (.bipush (-4), 2) := by decide +kernel
theorem dX10_searchNets_60 : decode cX10_searchNets 60 = .ok (.invokevirtual 235, 3) := by decide +kernel
theorem dX10_searchNets_63 : decode cX10_searchNets 63 = .ok (.iload 5, 2) := by decide +kernel
theorem dX10_searchNets_65 : decode cX10_searchNets 65 = .ok (.invokevirtual 409, 3) := by decide +kernel
theorem dX10_searchNets_68 : decode cX10_searchNets 68 = .ok (.iinc 5 1, 3) := by decide +kernel
theorem dX10_searchNets_71 : decode cX10_searchNets 71 = .ok (.goto (-53), 3) := by decide +kernel
theorem dX10_searchNets_74 : decode cX10_searchNets 74 = .ok (.return_, 1) := by decide +kernel
theorem dX10_inLowestTerms_0 : decode cX10_inLowestTerms 0 = .ok (.lload_n 0, 1) := by decide +kernel
theorem dX10_inLowestTerms_1 : decode cX10_inLowestTerms 1 = .ok (.lload_n 2, 1) := by decide +kernel
theorem dX10_inLowestTerms_2 : decode cX10_inLowestTerms 2 = .ok (.invokestatic 411, 3) := by decide +kernel
theorem dX10_inLowestTerms_5 : decode cX10_inLowestTerms 5 = .ok (.lstore 5, 2) := by decide +kernel
theorem dX10_inLowestTerms_7 : decode cX10_inLowestTerms 7 = .ok (.iload 4, 2) := by decide +kernel
theorem dX10_inLowestTerms_9 : decode cX10_inLowestTerms 9 = .ok (.ifCond .ne 7, 3) := by decide +kernel
theorem dX10_inLowestTerms_12 : decode cX10_inLowestTerms 12 = .ok (.lload_n 0, 1) := by decide +kernel
theorem dX10_inLowestTerms_13 : decode cX10_inLowestTerms 13 = .ok (.goto 4, 3) := by decide +kernel
theorem dX10_inLowestTerms_16 : decode cX10_inLowestTerms 16 = .ok (.lload_n 2, 1) := by decide +kernel
theorem dX10_inLowestTerms_17 : decode cX10_inLowestTerms 17 = .ok (.lstore 7, 2) := by decide +kernel
theorem dX10_inLowestTerms_19 : decode cX10_inLowestTerms 19 = .ok (.lload 5, 2) := by decide +kernel
theorem dX10_inLowestTerms_21 : decode cX10_inLowestTerms 21 = .ok (.lconst 0, 1) := by decide +kernel
theorem dX10_inLowestTerms_22 : decode cX10_inLowestTerms 22 = .ok (.lcmp, 1) := by decide +kernel
theorem dX10_inLowestTerms_23 : decode cX10_inLowestTerms 23 = .ok (.ifCond .le 11, 3) := by decide +kernel
theorem dX10_inLowestTerms_26 : decode cX10_inLowestTerms 26 = .ok (.lload 7, 2) := by decide +kernel
theorem dX10_inLowestTerms_28 : decode cX10_inLowestTerms 28 = .ok (.lload 5, 2) := by decide +kernel
theorem dX10_inLowestTerms_30 : decode cX10_inLowestTerms 30 = .ok (.ldiv, 1) := by decide +kernel
theorem dX10_inLowestTerms_31 : decode cX10_inLowestTerms 31 = .ok (.goto 5, 3) := by decide +kernel
theorem dX10_inLowestTerms_34 : decode cX10_inLowestTerms 34 = .ok (.lload 7, 2) := by decide +kernel
theorem dX10_inLowestTerms_36 : decode cX10_inLowestTerms 36 = .ok (.lreturn, 1) := by decide +kernel
theorem dX10_commonDivisor_0 : decode cX10_commonDivisor 0 = .ok (.lload_n 0, 1) := by decide +kernel
theorem dX10_commonDivisor_1 : decode cX10_commonDivisor 1 = .ok (.lstore 4, 2) := by decide +kernel
theorem dX10_commonDivisor_3 : decode cX10_commonDivisor 3 = .ok (.lload_n 2, 1) := by decide +kernel
theorem dX10_commonDivisor_4 : decode cX10_commonDivisor 4 = .ok (.lstore 6, 2) := by decide +kernel
theorem dX10_commonDivisor_6 : decode cX10_commonDivisor 6 = .ok (.iconst 0, 1) := by decide +kernel
theorem dX10_commonDivisor_7 : decode cX10_commonDivisor 7 = .ok (.istore 8, 2) := by decide +kernel
theorem dX10_commonDivisor_9 : decode cX10_commonDivisor 9 = .ok (.iload 8, 2) := by decide +kernel
theorem dX10_commonDivisor_11 : decode cX10_commonDivisor 11 = .ok (.sipush 200, 3) := by decide +kernel
theorem dX10_commonDivisor_14 : decode cX10_commonDivisor 14 = .ok (.if_icmp .ge 31, 3) := by decide +kernel
theorem dX10_commonDivisor_17 : decode cX10_commonDivisor 17 = .ok (.lload 6, 2) := by decide +kernel
theorem dX10_commonDivisor_19 : decode cX10_commonDivisor 19 = .ok (.lconst 0, 1) := by decide +kernel
theorem dX10_commonDivisor_20 : decode cX10_commonDivisor 20 = .ok (.lcmp, 1) := by decide +kernel
theorem dX10_commonDivisor_21 : decode cX10_commonDivisor 21 = .ok (.ifCond .eq 24, 3) := by decide +kernel
theorem dX10_commonDivisor_24 : decode cX10_commonDivisor 24 = .ok (.lload 4, 2) := by decide +kernel
theorem dX10_commonDivisor_26 : decode cX10_commonDivisor 26 = .ok (.lload 6, 2) := by decide +kernel
theorem dX10_commonDivisor_28 : decode cX10_commonDivisor 28 = .ok (.lrem, 1) := by decide +kernel
theorem dX10_commonDivisor_29 : decode cX10_commonDivisor 29 = .ok (.lstore 9, 2) := by decide +kernel
theorem dX10_commonDivisor_31 : decode cX10_commonDivisor 31 = .ok (.lload 6, 2) := by decide +kernel
theorem dX10_commonDivisor_33 : decode cX10_commonDivisor 33 = .ok (.lstore 4, 2) := by decide +kernel
theorem dX10_commonDivisor_35 : decode cX10_commonDivisor 35 = .ok (.lload 9, 2) := by decide +kernel
theorem dX10_commonDivisor_37 : decode cX10_commonDivisor 37 = .ok (.lstore 6, 2) := by decide +kernel
theorem dX10_commonDivisor_39 : decode cX10_commonDivisor 39 = .ok (.iinc 8 1, 3) := by decide +kernel
theorem dX10_commonDivisor_42 : decode cX10_commonDivisor 42 = .ok (.goto (-33), 3) := by decide +kernel
theorem dX10_commonDivisor_45 : decode cX10_commonDivisor 45 = .ok (.lload 4, 2) := by decide +kernel
theorem dX10_commonDivisor_47 : decode cX10_commonDivisor 47 = .ok (.lreturn, 1) := by decide +kernel
