theorem dX7_init_0 : decode cX7_init 0 = .ok (.aload_n 0, 1) := by decide +kernel
theorem dX7_init_1 : decode cX7_init 1 = .ok (.invokespecial 1, 3) := by decide +kernel
theorem dX7_init_4 : decode cX7_init 4 = .ok (.aload_n 0, 1) := by decide +kernel
theorem dX7_init_5 : decode cX7_init 5 = .ok (.sipush 292, 3) := by decide +kernel
theorem dX7_init_8 : decode cX7_init 8 = .ok (.newarray .int, 2) := by decide +kernel
theorem dX7_init_10 : decode cX7_init 10 = .ok (.putfield 7, 3) := by decide +kernel
theorem dX7_init_13 : decode cX7_init 13 = .ok (.aload_n 0, 1) := by decide +kernel
theorem dX7_init_14 : decode cX7_init 14 = .ok (.sipush 584, 3) := by decide +kernel
theorem dX7_init_17 : decode cX7_init 17 = .ok (.newarray .int, 2) := by decide +kernel
theorem dX7_init_19 : decode cX7_init 19 = .ok (.putfield 13, 3) := by decide +kernel
theorem dX7_init_22 : decode cX7_init 22 = .ok (.aload_n 0, 1) := by decide +kernel
theorem dX7_init_23 : decode cX7_init 23 = .ok (.iconst 2, 1) := by decide +kernel
theorem dX7_init_24 : decode cX7_init 24 = .ok (.newarray .boolean, 2) := by decide +kernel
theorem dX7_init_26 : decode cX7_init 26 = .ok (.putfield 16, 3) := by decide +kernel
theorem dX7_init_29 : decode cX7_init 29 = .ok (.aload_n 0, 1) := by decide +kernel
theorem dX7_init_30 : decode cX7_init 30 = .ok (.sipush 144, 3) := by decide +kernel
theorem dX7_init_33 : decode cX7_init 33 = .ok (.newarray .int, 2) := by decide +kernel
theorem dX7_init_35 : decode cX7_init 35 = .ok (.putfield 20, 3) := by decide +kernel
theorem dX7_init_38 : decode cX7_init 38 = .ok (.aload_n 0, 1) := by decide +kernel
theorem dX7_init_39 : decode cX7_init 39 = .ok (.sipush 144, 3) := by decide +kernel
theorem dX7_init_42 : decode cX7_init 42 = .ok (.newarray .int, 2) := by decide +kernel
theorem dX7_init_44 : decode cX7_init 44 = .ok (.putfield 23, 3) := by decide +kernel
theorem dX7_init_47 : decode cX7_init 47 = .ok (.aload_n 0, 1) := by decide +kernel
theorem dX7_init_48 : decode cX7_init 48 = .ok (.sipush 144, 3) := by decide +kernel
theorem dX7_init_51 : decode cX7_init 51 = .ok (.newarray .boolean, 2) := by decide +kernel
theorem dX7_init_53 : decode cX7_init 53 = .ok (.putfield 26, 3) := by decide +kernel
theorem dX7_init_56 : decode cX7_init 56 = .ok (.aload_n 0, 1) := by decide +kernel
theorem dX7_init_57 : decode cX7_init 57 = .ok (.sipush 144, 3) := by decide +kernel
theorem dX7_init_60 : decode cX7_init 60 = .ok (.newarray .int, 2) := by decide +kernel
theorem dX7_init_62 : decode cX7_init 62 = .ok (.putfield 29, 3) := by decide +kernel
theorem dX7_init_65 : decode cX7_init 65 = .ok (.aload_n 0, 1) := by decide +kernel
theorem dX7_init_66 : decode cX7_init 66 = .ok (.sipush 144, 3) := by decide +kernel
theorem dX7_init_69 : decode cX7_init 69 = .ok (.newarray .int, 2) := by decide +kernel
theorem dX7_init_71 : decode cX7_init 71 = .ok (.putfield 32, 3) := by decide +kernel
theorem dX7_init_74 : decode cX7_init 74 = .ok (.aload_n 0, 1) := by decide +kernel
theorem dX7_init_75 : decode cX7_init 75 = .ok (.sipush 144, 3) := by decide +kernel
theorem dX7_init_78 : decode cX7_init 78 = .ok (.newarray .int, 2) := by decide +kernel
theorem dX7_init_80 : decode cX7_init 80 = .ok (.putfield 35, 3) := by decide +kernel
theorem dX7_init_83 : decode cX7_init 83 = .ok (.aload_n 0, 1) := by decide +kernel
theorem dX7_init_84 : decode cX7_init 84 = .ok (.sipush 144, 3) := by decide +kernel
theorem dX7_init_87 : decode cX7_init 87 = .ok (.newarray .int, 2) := by decide +kernel
theorem dX7_init_89 : decode cX7_init 89 = .ok (.putfield 38, 3) := by decide +kernel
theorem dX7_init_92 : decode cX7_init 92 = .ok (.aload_n 0, 1) := by decide +kernel
theorem dX7_init_93 : decode cX7_init 93 = .ok (.sipush 144, 3) := by decide +kernel
theorem dX7_init_96 : decode cX7_init 96 = .ok (.newarray .boolean, 2) := by decide +kernel
theorem dX7_init_98 : decode cX7_init 98 = .ok (.putfield 41, 3) := by decide +kernel
theorem dX7_init_101 : decode cX7_init 101 = .ok (.aload_n 0, 1) := by decide +kernel
theorem dX7_init_102 : decode cX7_init 102 = .ok (.sipush 144, 3) := by decide +kernel
theorem dX7_init_105 : decode cX7_init 105 = .ok (.newarray .int, 2) := by decide +kernel
theorem dX7_init_107 : decode cX7_init 107 = .ok (.putfield 44, 3) := by decide +kernel
theorem dX7_init_110 : decode cX7_init 110 = .ok (.aload_n 0, 1) := by decide +kernel
theorem dX7_init_111 : decode cX7_init 111 = .ok (.bipush 100, 2) := by decide +kernel
theorem dX7_init_113 : decode cX7_init 113 = .ok (.newarray .int, 2) := by decide +kernel
theorem dX7_init_115 : decode cX7_init 115 = .ok (.putfield 47, 3) := by decide +kernel
theorem dX7_init_118 : decode cX7_init 118 = .ok (.aload_n 0, 1) := by decide +kernel
theorem dX7_init_119 : decode cX7_init 119 = .ok (.bipush 100, 2) := by decide +kernel
theorem dX7_init_121 : decode cX7_init 121 = .ok (.newarray .int, 2) := by decide +kernel
theorem dX7_init_123 : decode cX7_init 123 = .ok (.putfield 50, 3) := by decide +kernel
theorem dX7_init_126 : decode cX7_init 126 = .ok (.aload_n 0, 1) := by decide +kernel
theorem dX7_init_127 : decode cX7_init 127 = .ok (.bipush 100, 2) := by decide +kernel
theorem dX7_init_129 : decode cX7_init 129 = .ok (.newarray .int, 2) := by decide +kernel
theorem dX7_init_131 : decode cX7_init 131 = .ok (.putfield 53, 3) := by decide +kernel
theorem dX7_init_134 : decode cX7_init 134 = .ok (.aload_n 0, 1) := by decide +kernel
theorem dX7_init_135 : decode cX7_init 135 = .ok (.bipush 100, 2) := by decide +kernel
theorem dX7_init_137 : decode cX7_init 137 = .ok (.newarray .int, 2) := by decide +kernel
theorem dX7_init_139 : decode cX7_init 139 = .ok (.putfield 56, 3) := by decide +kernel
theorem dX7_init_142 : decode cX7_init 142 = .ok (.aload_n 0, 1) := by decide +kernel
theorem dX7_init_143 : decode cX7_init 143 = .ok (.bipush 100, 2) := by decide +kernel
theorem dX7_init_145 : decode cX7_init 145 = .ok (.newarray .int, 2) := by decide +kernel
theorem dX7_init_147 : decode cX7_init 147 = .ok (.putfield 59, 3) := by decide +kernel
theorem dX7_init_150 : decode cX7_init 150 = .ok (.aload_n 0, 1) := by decide +kernel
theorem dX7_init_151 : decode cX7_init 151 = .ok (.sipush 144, 3) := by decide +kernel
theorem dX7_init_154 : decode cX7_init 154 = .ok (.newarray .int, 2) := by decide +kernel
theorem dX7_init_156 : decode cX7_init 156 = .ok (.putfield 62, 3) := by decide +kernel
theorem dX7_init_159 : decode cX7_init 159 = .ok (.aload_n 0, 1) := by decide +kernel
theorem dX7_init_160 : decode cX7_init 160 = .ok (.getfield 7, 3) := by decide +kernel
theorem dX7_init_163 : decode cX7_init 163 = .ok (.sipush 288, 3) := by decide +kernel
theorem dX7_init_166 : decode cX7_init 166 = .ok (.bipush 8, 2) := by decide +kernel
theorem dX7_init_168 : decode cX7_init 168 = .ok (.iastore, 1) := by decide +kernel
theorem dX7_init_169 : decode cX7_init 169 = .ok (.aload_n 0, 1) := by decide +kernel
theorem dX7_init_170 : decode cX7_init 170 = .ok (.getfield 7, 3) := by decide +kernel
theorem dX7_init_173 : decode cX7_init 173 = .ok (.sipush 289, 3) := by decide +kernel
theorem dX7_init_176 : decode cX7_init 176 = .ok (.bipush 8, 2) := by decide +kernel
theorem dX7_init_178 : decode cX7_init 178 = .ok (.iastore, 1) := by decide +kernel
theorem dX7_init_179 : decode cX7_init 179 = .ok (.return_, 1) := by decide +kernel
theorem dX7_in_0 : decode cX7_in 0 = .ok (.iload_n 0, 1) := by decide +kernel
theorem dX7_in_1 : decode cX7_in 1 = .ok (.iload_n 1, 1) := by decide +kernel
theorem dX7_in_2 : decode cX7_in 2 = .ok (.if_icmp .lt 12, 3) := by decide +kernel
theorem dX7_in_5 : decode cX7_in 5 = .ok (.iload_n 0, 1) := by decide +kernel
theorem dX7_in_6 : decode cX7_in 6 = .ok (.iload_n 2, 1) := by decide +kernel
theorem dX7_in_7 : decode cX7_in 7 = .ok (.if_icmp .gt 7, 3) := by decide +kernel
theorem dX7_in_10 : decode cX7_in 10 = .ok (.iconst 1, 1) := by decide +kernel
theorem dX7_in_11 : decode cX7_in 11 = .ok (.goto 4, 3) := by decide +kernel
theorem dX7_in_14 : decode cX7_in 14 = .ok (.iconst 0, 1) := by decide +kernel
theorem dX7_in_15 : decode cX7_in 15 = .ok (.ireturn, 1) := by decide +kernel
theorem dX7_isDot_0 : decode cX7_isDot 0 = .ok (.iload_n 1, 1) := by decide +kernel
theorem dX7_isDot_1 : decode cX7_isDot 1 = .ok (.iconst 0, 1) := by decide +kernel
theorem dX7_isDot_2 : decode cX7_isDot 2 = .ok (.aload_n 0, 1) := by decide +kernel
theorem dX7_isDot_3 : decode cX7_isDot 3 = .ok (.getfield 7, 3) := by decide +kernel
theorem dX7_isDot_6 : decode cX7_isDot 6 = .ok (.sipush 288, 3) := by decide +kernel
theorem dX7_isDot_9 : decode cX7_isDot 9 = .ok (.iaload, 1) := by decide +kernel
theorem dX7_isDot_10 : decode cX7_isDot 10 = .ok (.iconst 1, 1) := by decide +kernel
theorem dX7_isDot_11 : decode cX7_isDot 11 = .ok (.isub, 1) := by decide +kernel
theorem dX7_isDot_12 : decode cX7_isDot 12 = .ok (.invokestatic 65, 3) := by decide +kernel
theorem dX7_isDot_15 : decode cX7_isDot 15 = .ok (.ifCond .eq 25, 3) := by decide +kernel
theorem dX7_isDot_18 : decode cX7_isDot 18 = .ok (.iload_n 2, 1) := by decide +kernel
theorem dX7_isDot_19 : decode cX7_isDot 19 = .ok (.iconst 0, 1) := by decide +kernel
theorem dX7_isDot_20 : decode cX7_isDot 20 = .ok (.aload_n 0, 1) := by decide +kernel
theorem dX7_isDot_21 : decode cX7_isDot 21 = .ok (.getfield 7, 3) := by decide +kernel
theorem dX7_isDot_24 : decode cX7_isDot 24 = .ok (.sipush 289, 3) := by decide +kernel
theorem dX7_isDot_27 : decode cX7_isDot 27 = .ok (.iaload, 1) := by decide +kernel
theorem dX7_isDot_28 : decode cX7_isDot 28 = .ok (.iconst 1, 1) := by decide +kernel
theorem dX7_isDot_29 : decode cX7_isDot 29 = .ok (.isub, 1) := by decide +kernel
theorem dX7_isDot_30 : decode cX7_isDot 30 = .ok (.invokestatic 65, 3) := by decide +kernel
theorem dX7_isDot_33 : decode cX7_isDot 33 = .ok (.ifCond .eq 7, 3) := by decide +kernel
theorem dX7_isDot_36 : decode cX7_isDot 36 = .ok (.iconst 1, 1) := by decide +kernel
theorem dX7_isDot_37 : decode cX7_isDot 37 = .ok (.goto 4, 3) := by decide +kernel
theorem dX7_isDot_40 : decode cX7_isDot 40 = .ok (.iconst 0, 1) := by decide +kernel
theorem dX7_isDot_41 : decode cX7_isDot 41 = .ok (.ireturn, 1) := by decide +kernel
theorem dX7_dots_0 : decode cX7_dots 0 = .ok (.aload_n 0, 1) := by decide +kernel
theorem dX7_dots_1 : decode cX7_dots 1 = .ok (.getfield 7, 3) := by decide +kernel
theorem dX7_dots_4 : decode cX7_dots 4 = .ok (.sipush 288, 3) := by decide +kernel
theorem dX7_dots_7 : decode cX7_dots 7 = .ok (.iaload, 1) := by decide +kernel
theorem dX7_dots_8 : decode cX7_dots 8 = .ok (.aload_n 0, 1) := by decide +kernel
theorem dX7_dots_9 : decode cX7_dots 9 = .ok (.getfield 7, 3) := by decide +kernel
theorem dX7_dots_12 : decode cX7_dots 12 = .ok (.sipush 289, 3) := by decide +kernel
theorem dX7_dots_15 : decode cX7_dots 15 = .ok (.iaload, 1) := by decide +kernel
theorem dX7_dots_16 : decode cX7_dots 16 = .ok (.imul, 1) := by decide +kernel
theorem dX7_dots_17 : decode cX7_dots 17 = .ok (.ireturn, 1) := by decide +kernel
theorem dX7_at_0 : decode cX7_at 0 = .ok (.aload_n 0, 1) := by decide +kernel
theorem dX7_at_1 : decode cX7_at 1 = .ok (.getfield 7, 3) := by decide +kernel
theorem dX7_at_4 : decode cX7_at 4 = .ok (.sipush 288, 3) := by decide +kernel
theorem dX7_at_7 : decode cX7_at 7 = .ok (.iaload, 1) := by decide +kernel
theorem dX7_at_8 : decode cX7_at 8 = .ok (.iload_n 2, 1) := by decide +kernel
theorem dX7_at_9 : decode cX7_at 9 = .ok (.imul, 1) := by decide +kernel
theorem dX7_at_10 : decode cX7_at 10 = .ok (.iload_n 1, 1) := by decide +kernel
theorem dX7_at_11 : decode cX7_at 11 = .ok (.iadd, 1) := by decide +kernel
theorem dX7_at_12 : decode cX7_at 12 = .ok (.ireturn, 1) := by decide +kernel
theorem dX7_beside_0 : decode cX7_beside 0 = .ok (.iload_n 1, 1) := by decide +kernel
theorem dX7_beside_1 : decode cX7_beside 1 = .ok (.aload_n 0, 1) := by decide +kernel
theorem dX7_beside_2 : decode cX7_beside 2 = .ok (.getfield 7, 3) := by decide +kernel
theorem dX7_beside_5 : decode cX7_beside 5 = .ok (.sipush 288, 3) := by decide +kernel
theorem dX7_beside_8 : decode cX7_beside 8 = .ok (.iaload, 1) := by decide +kernel
theorem dX7_beside_9 : decode cX7_beside 9 = .ok (.irem, 1) := by decide +kernel
theorem dX7_beside_10 : decode cX7_beside 10 = .ok (.iload_n 2, 1) := by decide +kernel
theorem dX7_beside_11 : decode cX7_beside 11 = .ok (.ifCond .ne 7, 3) := by decide +kernel
theorem dX7_beside_14 : decode cX7_beside 14 = .ok (.iconst 1, 1) := by decide +kernel
theorem dX7_beside_15 : decode cX7_beside 15 = .ok (.goto 13, 3) := by decide +kernel
theorem dX7_beside_18 : decode cX7_beside 18 = .ok (.iload_n 2, 1) := by decide +kernel
theorem dX7_beside_19 : decode cX7_beside 19 = .ok (.iconst 2, 1) := by decide +kernel
theorem dX7_beside_20 : decode cX7_beside 20 = .ok (.if_icmp .ne 7, 3) := by decide +kernel
theorem dX7_beside_23 : decode cX7_beside 23 = .ok (.iconst (-1), 1) := by decide +kernel
theorem dX7_beside_24 : decode cX7_beside 24 = .ok (.goto 4, 3) := by decide +kernel
theorem dX7_beside_27 : decode cX7_beside 27 = .ok (.iconst 0, 1) := by decide +kernel
theorem dX7_beside_28 : decode cX7_beside 28 = .ok (.iadd, 1) := by decide +kernel
theorem dX7_beside_29 : decode cX7_beside 29 = .ok (.istore_n 3, 1) := by decide +kernel
theorem dX7_beside_30 : decode cX7_beside 30 = .ok (.iload_n 1, 1) := by decide +kernel
theorem dX7_beside_31 : decode cX7_beside 31 = .ok (.aload_n 0, 1) := by decide +kernel
theorem dX7_beside_32 : decode cX7_beside 32 = .ok (.getfield 7, 3) := by decide +kernel
theorem dX7_beside_35 : decode cX7_beside 35 = .ok (.sipush 288, 3) := by decide +kernel
theorem dX7_beside_38 : decode cX7_beside 38 = .ok (.iaload, 1) := by decide +kernel
theorem dX7_beside_39 : decode cX7_beside 39 = .ok (.idiv, 1) := by decide +kernel
theorem dX7_beside_40 : decode cX7_beside 40 = .ok (.iload_n 2, 1) := by decide +kernel
theorem dX7_beside_41 : decode cX7_beside 41 = .ok (.iconst 1, 1) := by decide +kernel
theorem dX7_beside_42 : decode cX7_beside 42 = .ok (.if_icmp .ne 7, 3) := by decide +kernel
theorem dX7_beside_45 : decode cX7_beside 45 = .ok (.iconst 1, 1) := by decide +kernel
theorem dX7_beside_46 : decode cX7_beside 46 = .ok (.goto 13, 3) := by decide +kernel
theorem dX7_beside_49 : decode cX7_beside 49 = .ok (.iload_n 2, 1) := by decide +kernel
theorem dX7_beside_50 : decode cX7_beside 50 = .ok (.iconst 3, 1) := by decide +kernel
theorem dX7_beside_51 : decode cX7_beside 51 = .ok (.if_icmp .ne 7, 3) := by decide +kernel
theorem dX7_beside_54 : decode cX7_beside 54 = .ok (.iconst (-1), 1) := by decide +kernel
theorem dX7_beside_55 : decode cX7_beside 55 = .ok (.goto 4, 3) := by decide +kernel
theorem dX7_beside_58 : decode cX7_beside 58 = .ok (.iconst 0, 1) := by decide +kernel
theorem dX7_beside_59 : decode cX7_beside 59 = .ok (.iadd, 1) := by decide +kernel
theorem dX7_beside_60 : decode cX7_beside 60 = .ok (.istore 4, 2) := by decide +kernel
theorem dX7_beside_62 : decode cX7_beside 62 = .ok (.aload_n 0, 1) := by decide +kernel
theorem dX7_beside_63 : decode cX7_beside 63 = .ok (.iload_n 3, 1) := by decide +kernel
theorem dX7_beside_64 : decode cX7_beside 64 = .ok (.iload 4, 2) := by decide +kernel
theorem dX7_beside_66 : decode cX7_beside 66 = .ok (.invokevirtual 69, 3) := by decide +kernel
theorem dX7_beside_69 : decode cX7_beside 69 = .ok (.ifCond .eq 13, 3) := by decide +kernel
theorem dX7_beside_72 : decode cX7_beside 72 = .ok (.aload_n 0, 1) := by decide +kernel
theorem dX7_beside_73 : decode cX7_beside 73 = .ok (.iload_n 3, 1) := by decide +kernel
theorem dX7_beside_74 : decode cX7_beside 74 = .ok (.iload 4, 2) := by decide +kernel
theorem dX7_beside_76 : decode cX7_beside 76 = .ok (.invokevirtual 73, 3) := by decide +kernel
theorem dX7_beside_79 : decode cX7_beside 79 = .ok (.goto 5, 3) := by decide +kernel
theorem dX7_beside_82 : decode cX7_beside 82 = .ok (.bipush (-6), 2) := by decide +kernel
theorem dX7_beside_84 : decode cX7_beside 84 = .ok (.ireturn, 1) := by decide +kernel
theorem dX7_greater_0 : decode cX7_greater 0 = .ok (.iload_n 0, 1) := by decide +kernel
theorem dX7_greater_1 : decode cX7_greater 1 = .ok (.iload_n 1, 1) := by decide +kernel
theorem dX7_greater_2 : decode cX7_greater 2 = .ok (.if_icmp .le 7, 3) := by decide +kernel
theorem dX7_greater_5 : decode cX7_greater 5 = .ok (.iload_n 0, 1) := by decide +kernel
theorem dX7_greater_6 : decode cX7_greater 6 = .ok (.goto 4, 3) := by decide +kernel
theorem dX7_greater_9 : decode cX7_greater 9 = .ok (.iload_n 1, 1) := by decide +kernel
theorem dX7_greater_10 : decode cX7_greater 10 = .ok (.ireturn, 1) := by decide +kernel
theorem dX7_size_0 : decode cX7_size 0 = .ok (.iload_n 0, 1) := by decide +kernel
theorem dX7_size_1 : decode cX7_size 1 = .ok (.ifCond .ge 8, 3) := by decide +kernel
theorem dX7_size_4 : decode cX7_size 4 = .ok (.iload_n 0, 1) := by decide +kernel
theorem dX7_size_5 : decode cX7_size 5 = .ok (.ineg, 1) := by decide +kernel
theorem dX7_size_6 : decode cX7_size 6 = .ok (.goto 4, 3) := by decide +kernel
theorem dX7_size_9 : decode cX7_size 9 = .ok (.iload_n 0, 1) := by decide +kernel
theorem dX7_size_10 : decode cX7_size 10 = .ok (.ireturn, 1) := by decide +kernel
theorem dX7_spread_0 : decode cX7_spread 0 = .ok (.iconst 0, 1) := by decide +kernel
theorem dX7_spread_1 : decode cX7_spread 1 = .ok (.istore 4, 2) := by decide +kernel
theorem dX7_spread_3 : decode cX7_spread 3 = .ok (.iload 4, 2) := by decide +kernel
theorem dX7_spread_5 : decode cX7_spread 5 = .ok (.sipush 144, 3) := by decide +kernel
theorem dX7_spread_8 : decode cX7_spread 8 = .ok (.if_icmp .ge 17, 3) := by decide +kernel
theorem dX7_spread_11 : decode cX7_spread 11 = .ok (.aload_n 0, 1) := by decide +kernel
theorem dX7_spread_12 : decode cX7_spread 12 = .ok (.getfield 26, 3) := by decide +kernel
theorem dX7_spread_15 : decode cX7_spread 15 = .ok (.iload 4, 2) := by decide +kernel
theorem dX7_spread_17 : decode cX7_spread 17 = .ok (.iconst 0, 1) := by decide +kernel
theorem dX7_spread_18 : decode cX7_spread 18 = .ok (.bastore, 1) := by decide +kernel
theorem dX7_spread_19 : decode cX7_spread 19 = .ok (.iinc 4 1, 3) := by decide +kernel
theorem dX7_spread_22 : decode cX7_spread 22 = .ok (.goto (-19), 3) := by decide +kernel
theorem dX7_spread_25 : decode cX7_spread 25 = .ok (.iconst 1, 1) := by decide +kernel
theorem dX7_spread_26 : decode cX7_spread 26 = .ok (.istore 4, 2) := by decide +kernel
theorem dX7_spread_28 : decode cX7_spread 28 = .ok (.aload_n 0, 1) := by decide +kernel
theorem dX7_spread_29 : decode cX7_spread 29 = .ok (.getfield 23, 3) := by decide +kernel
theorem dX7_spread_32 : decode cX7_spread 32 = .ok (.iconst 0, 1) := by decide +kernel
theorem dX7_spread_33 : decode cX7_spread 33 = .ok (.iload_n 1, 1) := by decide +kernel
theorem dX7_spread_34 : decode cX7_spread 34 = .ok (.iastore, 1) := by decide +kernel
theorem dX7_spread_35 : decode cX7_spread 35 = .ok (.aload_n 0, 1) := by decide +kernel
theorem dX7_spread_36 : decode cX7_spread 36 = .ok (.getfield 26, 3) := by decide +kernel
theorem dX7_spread_39 : decode cX7_spread 39 = .ok (.iload_n 1, 1) := by decide +kernel
theorem dX7_spread_40 : decode cX7_spread 40 = .ok (.iconst 1, 1) := by decide +kernel
theorem dX7_spread_41 : decode cX7_spread 41 = .ok (.bastore, 1) := by decide +kernel
theorem dX7_spread_42 : decode cX7_spread 42 = .ok (.iconst 0, 1) := by decide +kernel
theorem dX7_spread_43 : decode cX7_spread 43 = .ok (.istore 5, 2) := by decide +kernel
theorem dX7_spread_45 : decode cX7_spread 45 = .ok (.iload 5, 2) := by decide +kernel
theorem dX7_spread_47 : decode cX7_spread 47 = .ok (.iload 4, 2) := by decide +kernel
theorem dX7_spread_49 : decode cX7_spread 49 = .ok (.if_icmp .ge 103, 3) := by decide +kernel
theorem dX7_spread_52 : decode cX7_spread 52 = .ok (.iconst 0, 1) := by decide +kernel
theorem dX7_spread_53 : decode cX7_spread 53 = .ok (.istore 6, 2) := by decide +kernel
theorem dX7_spread_55 : decode cX7_spread 55 = .ok (.iload 6, 2) := by decide +kernel
theorem dX7_spread_57 : decode cX7_spread 57 = .ok (.iconst 4, 1) := by decide +kernel
theorem dX7_spread_58 : decode cX7_spread 58 = .ok (.if_icmp .ge 88, 3) := by decide +kernel
theorem dX7_spread_61 : decode cX7_spread 61 = .ok (.aload_n 0, 1) := by decide +kernel
theorem dX7_spread_62 : decode cX7_spread 62 = .ok (.aload_n 0, 1) := by decide +kernel
theorem dX7_spread_63 : decode cX7_spread 63 = .ok (.getfield 23, 3) := by decide +kernel
theorem dX7_spread_66 : decode cX7_spread 66 = .ok (.iload 5, 2) := by decide +kernel
theorem dX7_spread_68 : decode cX7_spread 68 = .ok (.iaload, 1) := by decide +kernel
theorem dX7_spread_69 : decode cX7_spread 69 = .ok (.iload 6, 2) := by decide +kernel
theorem dX7_spread_71 : decode cX7_spread 71 = .ok (.invokevirtual 77, 3) := by decide +kernel
theorem dX7_spread_74 : decode cX7_spread 74 = .ok (.istore 7, 2) := by decide +kernel
theorem dX7_spread_76 : decode cX7_spread 76 = .ok (.iload 7, 2) := by decide +kernel
theorem dX7_spread_78 : decode cX7_spread 78 = .ok (.ifCond .lt 62, 3) := by decide +kernel
theorem dX7_spread_81 : decode cX7_spread 81 = .ok (.aload_n 0, 1) := by decide +kernel
theorem dX7_spread_82 : decode cX7_spread 82 = .ok (.getfield 26, 3) := by decide +kernel
theorem dX7_spread_85 : decode cX7_spread 85 = .ok (.iload 7, 2) := by decide +kernel
theorem dX7_spread_87 : decode cX7_spread 87 = .ok (.baload, 1) := by decide +kernel
theorem dX7_spread_88 : decode cX7_spread 88 = .ok (.ifCond .ne 52, 3) := by decide +kernel
theorem dX7_spread_91 : decode cX7_spread 91 = .ok (.iload_n 3, 1) := by decide +kernel
theorem dX7_spread_92 : decode cX7_spread 92 = .ok (.ifCond .eq 17, 3) := by decide +kernel
theorem dX7_spread_95 : decode cX7_spread 95 = .ok (.aload_n 0, 1) := by decide +kernel
theorem dX7_spread_96 : decode cX7_spread 96 = .ok (.getfield 7, 3) := by decide +kernel
theorem dX7_spread_99 : decode cX7_spread 99 = .ok (.iload 7, 2) := by decide +kernel
theorem dX7_spread_101 : decode cX7_spread 101 = .ok (.iaload, 1) := by decide +kernel
theorem dX7_spread_102 : decode cX7_spread 102 = .ok (.iload_n 2, 1) := by decide +kernel
theorem dX7_spread_103 : decode cX7_spread 103 = .ok (.if_icmp .ne 37, 3) := by decide +kernel
theorem dX7_spread_106 : decode cX7_spread 106 = .ok (.goto 14, 3) := by decide +kernel
theorem dX7_spread_109 : decode cX7_spread 109 = .ok (.aload_n 0, 1) := by decide +kernel
theorem dX7_spread_110 : decode cX7_spread 110 = .ok (.getfield 7, 3) := by decide +kernel
theorem dX7_spread_113 : decode cX7_spread 113 = .ok (.iload 7, 2) := by decide +kernel
theorem dX7_spread_115 : decode cX7_spread 115 = .ok (.iaload, 1) := by decide +kernel
theorem dX7_spread_116 : decode cX7_spread 116 = .ok (.iload_n 2, 1) := by decide +kernel
theorem dX7_spread_117 : decode cX7_spread 117 = .ok (.if_icmp .gt 23, 3) := by decide +kernel
theorem dX7_spread_120 : decode cX7_spread 120 = .ok (.aload_n 0, 1) := by decide +kernel
theorem dX7_spread_121 : decode cX7_spread 121 = .ok (.getfield 26, 3) := by decide +kernel
theorem dX7_spread_124 : decode cX7_spread 124 = .ok (.iload 7, 2) := by decide +kernel
theorem dX7_spread_126 : decode cX7_spread 126 = .ok (.iconst 1, 1) := by decide +kernel
theorem dX7_spread_127 : decode cX7_spread 127 = .ok (.bastore, 1) := by decide +kernel
theorem dX7_spread_128 : decode cX7_spread 128 = .ok (.aload_n 0, 1) := by decide +kernel
theorem dX7_spread_129 : decode cX7_spread 129 = .ok (.getfield 23, 3) := by decide +kernel
theorem dX7_spread_132 : decode cX7_spread 132 = .ok (.iload 4, 2) := by decide +kernel
theorem dX7_spread_134 : decode cX7_spread 134 = .ok (.iload 7, 2) := by decide +kernel
theorem dX7_spread_136 : decode cX7_spread 136 = .ok (.iastore, 1) := by decide +kernel
theorem dX7_spread_137 : decode cX7_spread 137 = .ok (.iinc 4 1, 3) := by decide +kernel
theorem dX7_spread_140 : decode cX7_spread 140 = .ok (.iinc 6 1, 3) := by decide +kernel
theorem dX7_spread_143 : decode cX7_spread 143 = .ok (.goto (-88), 3) := by decide +kernel
theorem dX7_spread_146 : decode cX7_spread 146 = .ok (.iinc 5 1, 3) := by decide +kernel
theorem dX7_spread_149 : decode cX7_spread 149 = .ok (.goto (-104), 3) := by decide +kernel
theorem dX7_spread_152 : decode cX7_spread 152 = .ok (.iload 4, 2) := by decide +kernel
theorem dX7_spread_154 : decode cX7_spread 154 = .ok (.ireturn, 1) := by decide +kernel
theorem dX7_leastBeside_0 : decode cX7_leastBeside 0 = .ok (.bipush (-6), 2) := by decide +kernel
theorem dX7_leastBeside_2 : decode cX7_leastBeside 2 = .ok (.istore_n 2, 1) := by decide +kernel
theorem dX7_leastBeside_3 : decode cX7_leastBeside 3 = .ok (.iconst 0, 1) := by decide +kernel
theorem dX7_leastBeside_4 : decode cX7_leastBeside 4 = .ok (.istore_n 3, 1) := by decide +kernel
theorem dX7_leastBeside_5 : decode cX7_leastBeside 5 = .ok (.iload_n 3, 1) := by decide +kernel
theorem dX7_leastBeside_6 : decode cX7_leastBeside 6 = .ok (.iload_n 1, 1) := by decide +kernel
theorem dX7_leastBeside_7 : decode cX7_leastBeside 7 = .ok (.if_icmp .ge 76, 3) := by decide +kernel
theorem dX7_leastBeside_10 : decode cX7_leastBeside 10 = .ok (.iconst 0, 1) := by decide +kernel
theorem dX7_leastBeside_11 : decode cX7_leastBeside 11 = .ok (.istore 4, 2) := by decide +kernel
theorem dX7_leastBeside_13 : decode cX7_leastBeside 13 = .ok (.iload 4, 2) := by decide +kernel
theorem dX7_leastBeside_15 : decode cX7_leastBeside 15 = .ok (.iconst 4, 1) := by decide +kernel
theorem dX7_leastBeside_16 : decode cX7_leastBeside 16 = .ok (.if_icmp .ge 61, 3) := by decide +kernel
theorem dX7_leastBeside_19 : decode cX7_leastBeside 19 = .ok (.aload_n 0, 1) := by decide +kernel
theorem dX7_leastBeside_20 : decode cX7_leastBeside 20 = .ok (.aload_n 0, 1) := by decide +kernel
theorem dX7_leastBeside_21 : decode cX7_leastBeside 21 = .ok (.getfield 23, 3) := by decide +kernel
theorem dX7_leastBeside_24 : decode cX7_leastBeside 24 = .ok (.iload_n 3, 1) := by decide +kernel
theorem dX7_leastBeside_25 : decode cX7_leastBeside 25 = .ok (.iaload, 1) := by decide +kernel
theorem dX7_leastBeside_26 : decode cX7_leastBeside 26 = .ok (.iload 4, 2) := by decide +kernel
theorem dX7_leastBeside_28 : decode cX7_leastBeside 28 = .ok (.invokevirtual 77, 3) := by decide +kernel
theorem dX7_leastBeside_31 : decode cX7_leastBeside 31 = .ok (.istore 5, 2) := by decide +kernel
theorem dX7_leastBeside_33 : decode cX7_leastBeside 33 = .ok (.iload 5, 2) := by decide +kernel
theorem dX7_leastBeside_35 : decode cX7_leastBeside 35 = .ok (.ifCond .lt 36, 3) := by decide +kernel
theorem dX7_leastBeside_38 : decode cX7_leastBeside 38 = .ok (.aload_n 0, 1) := by decide +kernel
theorem dX7_leastBeside_39 : decode cX7_leastBeside 39 = .ok (.getfield 26, 3) := by decide +kernel
theorem dX7_leastBeside_42 : decode cX7_leastBeside 42 = .ok (.iload 5, 2) := by decide +kernel
theorem dX7_leastBeside_44 : decode cX7_leastBeside 44 = .ok (.baload, 1) := by decide +kernel
theorem dX7_leastBeside_45 : decode cX7_leastBeside 45 = .ok (.ifCond .ne 26, 3) := by decide +kernel
theorem dX7_leastBeside_48 : decode cX7_leastBeside 48 = .ok (.iload_n 2, 1) := by decide +kernel
theorem dX7_leastBeside_49 : decode cX7_leastBeside 49 = .ok (.ifCond .lt 14, 3) := by decide +kernel
theorem dX7_leastBeside_52 : decode cX7_leastBeside 52 = .ok (.aload_n 0, 1) := by decide +kernel
theorem dX7_leastBeside_53 : decode cX7_leastBeside 53 = .ok (.getfield 7, 3) := by decide +kernel
theorem dX7_leastBeside_56 : decode cX7_leastBeside 56 = .ok (.iload 5, 2) := by decide +kernel
theorem dX7_leastBeside_58 : decode cX7_leastBeside 58 = .ok (.iaload, 1) := by decide +kernel
theorem dX7_leastBeside_59 : decode cX7_leastBeside 59 = .ok (.iload_n 2, 1) := by decide +kernel
theorem dX7_leastBeside_60 : decode cX7_leastBeside 60 = .ok (.if_icmp .ge 11, 3) := by decide +kernel
theorem dX7_leastBeside_63 : decode cX7_leastBeside 63 = .ok (.aload_n 0, 1) := by decide +kernel
theorem dX7_leastBeside_64 : decode cX7_leastBeside 64 = .ok (.getfield 7, 3) := by decide +kernel
theorem dX7_leastBeside_67 : decode cX7_leastBeside 67 = .ok (.iload 5, 2) := by decide +kernel
theorem dX7_leastBeside_69 : decode cX7_leastBeside 69 = .ok (.iaload, 1) := by decide +kernel
theorem dX7_leastBeside_70 : decode cX7_leastBeside 70 = .ok (.istore_n 2, 1) := by decide +kernel
theorem dX7_leastBeside_71 : decode cX7_leastBeside 71 = .ok (.iinc 4 1, 3) := by decide +kernel
theorem dX7_leastBeside_74 : decode cX7_leastBeside 74 = .ok (.goto (-61), 3) := by decide +kernel
theorem dX7_leastBeside_77 : decode cX7_leastBeside 77 = .ok (.iinc 3 1, 3) := by decide +kernel
theorem dX7_leastBeside_80 : decode cX7_leastBeside 80 = .ok (.goto (-75), 3) := by decide +kernel
theorem dX7_leastBeside_83 : decode cX7_leastBeside 83 = .ok (.iload_n 2, 1) := by decide +kernel
theorem dX7_leastBeside_84 : decode cX7_leastBeside 84 = .ok (.ireturn, 1) := by decide +kernel
theorem dX7_layPits_0 : decode cX7_layPits 0 = .ok (.iconst 0, 1) := by decide +kernel
theorem dX7_layPits_1 : decode cX7_layPits 1 = .ok (.istore_n 1, 1) := by decide +kernel
theorem dX7_layPits_2 : decode cX7_layPits 2 = .ok (.iload_n 1, 1) := by decide +kernel
theorem dX7_layPits_3 : decode cX7_layPits 3 = .ok (.sipush 144, 3) := by decide +kernel
theorem dX7_layPits_6 : decode cX7_layPits 6 = .ok (.if_icmp .ge 17, 3) := by decide +kernel
theorem dX7_layPits_9 : decode cX7_layPits 9 = .ok (.aload_n 0, 1) := by decide +kernel
theorem dX7_layPits_10 : decode cX7_layPits 10 = .ok (.getfield 20, 3) := by decide +kernel
theorem dX7_layPits_13 : decode cX7_layPits 13 = .ok (.iload_n 1, 1) := by decide +kernel
theorem dX7_layPits_14 : decode cX7_layPits 14 = .ok (.bipush (-6), 2) := by decide +kernel
theorem dX7_layPits_16 : decode cX7_layPits 16 = .ok (.iastore, 1) := by decide +kernel
theorem dX7_layPits_17 : decode cX7_layPits 17 = .ok (.iinc 1 1, 3) := by decide +kernel
theorem dX7_layPits_20 : decode cX7_layPits 20 = .ok (.goto (-18), 3) := by decide +kernel
theorem dX7_layPits_23 : decode cX7_layPits 23 = .ok (.iconst 0, 1) := by decide +kernel
theorem dX7_layPits_24 : decode cX7_layPits 24 = .ok (.istore_n 1, 1) := by decide +kernel
theorem dX7_layPits_25 : decode cX7_layPits 25 = .ok (.iconst 0, 1) := by decide +kernel
theorem dX7_layPits_26 : decode cX7_layPits 26 = .ok (.istore_n 2, 1) := by decide +kernel
theorem dX7_layPits_27 : decode cX7_layPits 27 = .ok (.iload_n 2, 1) := by decide +kernel
theorem dX7_layPits_28 : decode cX7_layPits 28 = .ok (.aload_n 0, 1) := by decide +kernel
theorem dX7_layPits_29 : decode cX7_layPits 29 = .ok (.invokevirtual 80, 3) := by decide +kernel
theorem dX7_layPits_32 : decode cX7_layPits 32 = .ok (.if_icmp .ge 87, 3) := by decide +kernel
theorem dX7_layPits_35 : decode cX7_layPits 35 = .ok (.aload_n 0, 1) := by decide +kernel
theorem dX7_layPits_36 : decode cX7_layPits 36 = .ok (.getfield 20, 3) := by decide +kernel
theorem dX7_layPits_39 : decode cX7_layPits 39 = .ok (.iload_n 2, 1) := by decide +kernel
theorem dX7_layPits_40 : decode cX7_layPits 40 = .ok (.iaload, 1) := by decide +kernel
theorem dX7_layPits_41 : decode cX7_layPits 41 = .ok (.bipush (-6), 2) := by decide +kernel
theorem dX7_layPits_43 : decode cX7_layPits 43 = .ok (.if_icmp .ne 70, 3) := by decide +kernel
theorem dX7_layPits_46 : decode cX7_layPits 46 = .ok (.aload_n 0, 1) := by decide +kernel
theorem dX7_layPits_47 : decode cX7_layPits 47 = .ok (.iload_n 2, 1) := by decide +kernel
theorem dX7_layPits_48 : decode cX7_layPits 48 = .ok (.aload_n 0, 1) := by decide +kernel
theorem dX7_layPits_49 : decode cX7_layPits 49 = .ok (.getfield 7, 3) := by decide +kernel
theorem dX7_layPits_52 : decode cX7_layPits 52 = .ok (.iload_n 2, 1) := by decide +kernel
theorem dX7_layPits_53 : decode cX7_layPits 53 = .ok (.iaload, 1) := by decide +kernel
theorem dX7_layPits_54 : decode cX7_layPits 54 = .ok (.iconst 1, 1) := by decide +kernel
theorem dX7_layPits_55 : decode cX7_layPits 55 = .ok (.invokevirtual 84, 3) := by decide +kernel
theorem dX7_layPits_58 : decode cX7_layPits 58 = .ok (.istore_n 3, 1) := by decide +kernel
theorem dX7_layPits_59 : decode cX7_layPits 59 = .ok (.aload_n 0, 1) := by decide +kernel
theorem dX7_layPits_60 : decode cX7_layPits 60 = .ok (.iload_n 3, 1) := by decide +kernel
theorem dX7_layPits_61 : decode cX7_layPits 61 = .ok (.invokevirtual 88, 3) := by decide +kernel
theorem dX7_layPits_64 : decode cX7_layPits 64 = .ok (.istore 4, 2) := by decide +kernel
theorem dX7_layPits_66 : decode cX7_layPits 66 = .ok (.iload 4, 2) := by decide +kernel
theorem dX7_layPits_68 : decode cX7_layPits 68 = .ok (.ifCond .lt 14, 3) := by decide +kernel
theorem dX7_layPits_71 : decode cX7_layPits 71 = .ok (.iload 4, 2) := by decide +kernel
theorem dX7_layPits_73 : decode cX7_layPits 73 = .ok (.aload_n 0, 1) := by decide +kernel
theorem dX7_layPits_74 : decode cX7_layPits 74 = .ok (.getfield 7, 3) := by decide +kernel
theorem dX7_layPits_77 : decode cX7_layPits 77 = .ok (.iload_n 2, 1) := by decide +kernel
theorem dX7_layPits_78 : decode cX7_layPits 78 = .ok (.iaload, 1) := by decide +kernel
theorem dX7_layPits_79 : decode cX7_layPits 79 = .ok (.if_icmp .le 34, 3) := by decide +kernel
theorem dX7_layPits_82 : decode cX7_layPits 82 = .ok (.iconst 0, 1) := by decide +kernel
theorem dX7_layPits_83 : decode cX7_layPits 83 = .ok (.istore 5, 2) := by decide +kernel
theorem dX7_layPits_85 : decode cX7_layPits 85 = .ok (.iload 5, 2) := by decide +kernel
theorem dX7_layPits_87 : decode cX7_layPits 87 = .ok (.iload_n 3, 1) := by decide +kernel
theorem dX7_layPits_88 : decode cX7_layPits 88 = .ok (.if_icmp .ge 22, 3) := by decide +kernel
theorem dX7_layPits_91 : decode cX7_layPits 91 = .ok (.aload_n 0, 1) := by decide +kernel
theorem dX7_layPits_92 : decode cX7_layPits 92 = .ok (.getfield 20, 3) := by decide +kernel
theorem dX7_layPits_95 : decode cX7_layPits 95 = .ok (.aload_n 0, 1) := by decide +kernel
theorem dX7_layPits_96 : decode cX7_layPits 96 = .ok (.getfield 23, 3) := by decide +kernel
theorem dX7_layPits_99 : decode cX7_layPits 99 = .ok (.iload 5, 2) := by decide +kernel
theorem dX7_layPits_101 : decode cX7_layPits 101 = .ok (.iaload, 1) := by decide +kernel
theorem dX7_layPits_102 : decode cX7_layPits 102 = .ok (.iload_n 1, 1) := by decide +kernel
theorem dX7_layPits_103 : decode cX7_layPits 103 = .ok (.iastore, 1) := by decide +kernel
theorem dX7_layPits_104 : decode cX7_layPits 104 = .ok (.iinc 5 1, 3) := by decide +kernel
theorem dX7_layPits_107 : decode cX7_layPits 107 = .ok (.goto (-22), 3) := by decide +kernel
theorem dX7_layPits_110 : decode cX7_layPits 110 = .ok (.iinc 1 1, 3) := by decide +kernel
theorem dX7_layPits_113 : decode cX7_layPits 113 = .ok (.iinc 2 1, 3) := by decide +kernel
theorem dX7_layPits_116 : decode cX7_layPits 116 = .ok (.goto (-89), 3) := by decide +kernel
theorem dX7_layPits_119 : decode cX7_layPits 119 = .ok (.iload_n 1, 1) := by decide +kernel
theorem dX7_layPits_120 : decode cX7_layPits 120 = .ok (.ireturn, 1) := by decide +kernel
theorem dX7_land_0 : decode cX7_land 0 = .ok (.iload_n 1, 1) := by decide +kernel
theorem dX7_land_1 : decode cX7_land 1 = .ok (.iconst 1, 1) := by decide +kernel
theorem dX7_land_2 : decode cX7_land 2 = .ok (.bipush 12, 2) := by decide +kernel
theorem dX7_land_4 : decode cX7_land 4 = .ok (.invokestatic 65, 3) := by decide +kernel
theorem dX7_land_7 : decode cX7_land 7 = .ok (.ifCond .eq 13, 3) := by decide +kernel
theorem dX7_land_10 : decode cX7_land 10 = .ok (.iload_n 2, 1) := by decide +kernel
theorem dX7_land_11 : decode cX7_land 11 = .ok (.iconst 1, 1) := by decide +kernel
theorem dX7_land_12 : decode cX7_land 12 = .ok (.bipush 12, 2) := by decide +kernel
theorem dX7_land_14 : decode cX7_land 14 = .ok (.invokestatic 65, 3) := by decide +kernel
theorem dX7_land_17 : decode cX7_land 17 = .ok (.ifCond .ne 6, 3) := by decide +kernel
theorem dX7_land_20 : decode cX7_land 20 = .ok (.bipush (-2), 2) := by decide +kernel
theorem dX7_land_22 : decode cX7_land 22 = .ok (.ireturn, 1) := by decide +kernel
theorem dX7_land_23 : decode cX7_land 23 = .ok (.iconst 0, 1) := by decide +kernel
theorem dX7_land_24 : decode cX7_land 24 = .ok (.istore_n 3, 1) := by decide +kernel
theorem dX7_land_25 : decode cX7_land 25 = .ok (.iload_n 3, 1) := by decide +kernel
theorem dX7_land_26 : decode cX7_land 26 = .ok (.sipush 144, 3) := by decide +kernel
theorem dX7_land_29 : decode cX7_land 29 = .ok (.if_icmp .ge 27, 3) := by decide +kernel
theorem dX7_land_32 : decode cX7_land 32 = .ok (.aload_n 0, 1) := by decide +kernel
theorem dX7_land_33 : decode cX7_land 33 = .ok (.getfield 7, 3) := by decide +kernel
theorem dX7_land_36 : decode cX7_land 36 = .ok (.iload_n 3, 1) := by decide +kernel
theorem dX7_land_37 : decode cX7_land 37 = .ok (.iconst 0, 1) := by decide +kernel
theorem dX7_land_38 : decode cX7_land 38 = .ok (.iastore, 1) := by decide +kernel
theorem dX7_land_39 : decode cX7_land 39 = .ok (.aload_n 0, 1) := by decide +kernel
theorem dX7_land_40 : decode cX7_land 40 = .ok (.getfield 7, 3) := by decide +kernel
theorem dX7_land_43 : decode cX7_land 43 = .ok (.sipush 144, 3) := by decide +kernel
theorem dX7_land_46 : decode cX7_land 46 = .ok (.iload_n 3, 1) := by decide +kernel
theorem dX7_land_47 : decode cX7_land 47 = .ok (.iadd, 1) := by decide +kernel
theorem dX7_land_48 : decode cX7_land 48 = .ok (.iconst 0, 1) := by decide +kernel
theorem dX7_land_49 : decode cX7_land 49 = .ok (.iastore, 1) := by decide +kernel
theorem dX7_land_50 : decode cX7_land 50 = .ok (.iinc 3 1, 3) := by decide +kernel
theorem dX7_land_53 : decode cX7_land 53 = .ok (.goto (-28), 3) := by decide +kernel
theorem dX7_land_56 : decode cX7_land 56 = .ok (.aload_n 0, 1) := by decide +kernel
theorem dX7_land_57 : decode cX7_land 57 = .ok (.getfield 7, 3) := by decide +kernel
theorem dX7_land_60 : decode cX7_land 60 = .ok (.sipush 288, 3) := by decide +kernel
theorem dX7_land_63 : decode cX7_land 63 = .ok (.iload_n 1, 1) := by decide +kernel
theorem dX7_land_64 : decode cX7_land 64 = .ok (.iastore, 1) := by decide +kernel
theorem dX7_land_65 : decode cX7_land 65 = .ok (.aload_n 0, 1) := by decide +kernel
theorem dX7_land_66 : decode cX7_land 66 = .ok (.getfield 7, 3) := by decide +kernel
theorem dX7_land_69 : decode cX7_land 69 = .ok (.sipush 289, 3) := by decide +kernel
theorem dX7_land_72 : decode cX7_land 72 = .ok (.iload_n 2, 1) := by decide +kernel
theorem dX7_land_73 : decode cX7_land 73 = .ok (.iastore, 1) := by decide +kernel
theorem dX7_land_74 : decode cX7_land 74 = .ok (.aload_n 0, 1) := by decide +kernel
theorem dX7_land_75 : decode cX7_land 75 = .ok (.invokevirtual 92, 3) := by decide +kernel
theorem dX7_land_78 : decode cX7_land 78 = .ok (.ireturn, 1) := by decide +kernel
theorem dX7_wave_0 : decode cX7_wave 0 = .ok (.iload_n 1, 1) := by decide +kernel
theorem dX7_wave_1 : decode cX7_wave 1 = .ok (.iconst 0, 1) := by decide +kernel
theorem dX7_wave_2 : decode cX7_wave 2 = .ok (.bipush 50, 2) := by decide +kernel
theorem dX7_wave_4 : decode cX7_wave 4 = .ok (.invokestatic 65, 3) := by decide +kernel
theorem dX7_wave_7 : decode cX7_wave 7 = .ok (.ifCond .eq 34, 3) := by decide +kernel
theorem dX7_wave_10 : decode cX7_wave 10 = .ok (.iload_n 2, 1) := by decide +kernel
theorem dX7_wave_11 : decode cX7_wave 11 = .ok (.iconst 0, 1) := by decide +kernel
theorem dX7_wave_12 : decode cX7_wave 12 = .ok (.bipush 50, 2) := by decide +kernel
theorem dX7_wave_14 : decode cX7_wave 14 = .ok (.invokestatic 65, 3) := by decide +kernel
theorem dX7_wave_17 : decode cX7_wave 17 = .ok (.ifCond .eq 24, 3) := by decide +kernel
theorem dX7_wave_20 : decode cX7_wave 20 = .ok (.iload_n 3, 1) := by decide +kernel
theorem dX7_wave_21 : decode cX7_wave 21 = .ok (.iconst 0, 1) := by decide +kernel
theorem dX7_wave_22 : decode cX7_wave 22 = .ok (.bipush 50, 2) := by decide +kernel
theorem dX7_wave_24 : decode cX7_wave 24 = .ok (.invokestatic 65, 3) := by decide +kernel
theorem dX7_wave_27 : decode cX7_wave 27 = .ok (.ifCond .eq 14, 3) := by decide +kernel
theorem dX7_wave_30 : decode cX7_wave 30 = .ok (.iload 4, 2) := by decide +kernel
theorem dX7_wave_32 : decode cX7_wave 32 = .ok (.iconst 1, 1) := by decide +kernel
theorem dX7_wave_33 : decode cX7_wave 33 = .ok (.bipush 100, 2) := by decide +kernel
theorem dX7_wave_35 : decode cX7_wave 35 = .ok (.invokestatic 65, 3) := by decide +kernel
theorem dX7_wave_38 : decode cX7_wave 38 = .ok (.ifCond .ne 6, 3) := by decide +kernel
theorem dX7_wave_41 : decode cX7_wave 41 = .ok (.bipush (-2), 2) := by decide +kernel
theorem dX7_wave_43 : decode cX7_wave 43 = .ok (.ireturn, 1) := by decide +kernel
theorem dX7_wave_44 : decode cX7_wave 44 = .ok (.iconst 0, 1) := by decide +kernel
theorem dX7_wave_45 : decode cX7_wave 45 = .ok (.istore 5, 2) := by decide +kernel
theorem dX7_wave_47 : decode cX7_wave 47 = .ok (.iload 5, 2) := by decide +kernel
theorem dX7_wave_49 : decode cX7_wave 49 = .ok (.aload_n 0, 1) := by decide +kernel
theorem dX7_wave_50 : decode cX7_wave 50 = .ok (.invokevirtual 80, 3) := by decide +kernel
theorem dX7_wave_53 : decode cX7_wave 53 = .ok (.if_icmp .ge 62, 3) := by decide +kernel
theorem dX7_wave_56 : decode cX7_wave 56 = .ok (.iload 5, 2) := by decide +kernel
theorem dX7_wave_58 : decode cX7_wave 58 = .ok (.aload_n 0, 1) := by decide +kernel
theorem dX7_wave_59 : decode cX7_wave 59 = .ok (.getfield 7, 3) := by decide +kernel
theorem dX7_wave_62 : decode cX7_wave 62 = .ok (.sipush 288, 3) := by decide +kernel
theorem dX7_wave_65 : decode cX7_wave 65 = .ok (.iaload, 1) := by decide +kernel
theorem dX7_wave_66 : decode cX7_wave 66 = .ok (.irem, 1) := by decide +kernel
theorem dX7_wave_67 : decode cX7_wave 67 = .ok (.istore 6, 2) := by decide +kernel
theorem dX7_wave_69 : decode cX7_wave 69 = .ok (.iload 5, 2) := by decide +kernel
theorem dX7_wave_71 : decode cX7_wave 71 = .ok (.aload_n 0, 1) := by decide +kernel
theorem dX7_wave_72 : decode cX7_wave 72 = .ok (.getfield 7, 3) := by decide +kernel
theorem dX7_wave_75 : decode cX7_wave 75 = .ok (.sipush 288, 3) := by decide +kernel
theorem dX7_wave_78 : decode cX7_wave 78 = .ok (.iaload, 1) := by decide +kernel
theorem dX7_wave_79 : decode cX7_wave 79 = .ok (.idiv, 1) := by decide +kernel
theorem dX7_wave_80 : decode cX7_wave 80 = .ok (.istore 7, 2) := by decide +kernel
theorem dX7_wave_82 : decode cX7_wave 82 = .ok (.aload_n 0, 1) := by decide +kernel
theorem dX7_wave_83 : decode cX7_wave 83 = .ok (.getfield 7, 3) := by decide +kernel
theorem dX7_wave_86 : decode cX7_wave 86 = .ok (.iload 5, 2) := by decide +kernel
theorem dX7_wave_88 : decode cX7_wave 88 = .ok (.iload_n 1, 1) := by decide +kernel
theorem dX7_wave_89 : decode cX7_wave 89 = .ok (.iload 6, 2) := by decide +kernel
theorem dX7_wave_91 : decode cX7_wave 91 = .ok (.imul, 1) := by decide +kernel
theorem dX7_wave_92 : decode cX7_wave 92 = .ok (.iload_n 2, 1) := by decide +kernel
theorem dX7_wave_93 : decode cX7_wave 93 = .ok (.iload 7, 2) := by decide +kernel
theorem dX7_wave_95 : decode cX7_wave 95 = .ok (.imul, 1) := by decide +kernel
theorem dX7_wave_96 : decode cX7_wave 96 = .ok (.iadd, 1) := by decide +kernel
theorem dX7_wave_97 : decode cX7_wave 97 = .ok (.iload_n 3, 1) := by decide +kernel
theorem dX7_wave_98 : decode cX7_wave 98 = .ok (.iload 6, 2) := by decide +kernel
theorem dX7_wave_100 : decode cX7_wave 100 = .ok (.imul, 1) := by decide +kernel
theorem dX7_wave_101 : decode cX7_wave 101 = .ok (.iload 7, 2) := by decide +kernel
theorem dX7_wave_103 : decode cX7_wave 103 = .ok (.imul, 1) := by decide +kernel
theorem dX7_wave_104 : decode cX7_wave 104 = .ok (.iadd, 1) := by decide +kernel
theorem dX7_wave_105 : decode cX7_wave 105 = .ok (.iload 4, 2) := by decide +kernel
theorem dX7_wave_107 : decode cX7_wave 107 = .ok (.irem, 1) := by decide +kernel
theorem dX7_wave_108 : decode cX7_wave 108 = .ok (.iastore, 1) := by decide +kernel
theorem dX7_wave_109 : decode cX7_wave 109 = .ok (.iinc 5 1, 3) := by decide +kernel
theorem dX7_wave_112 : decode cX7_wave 112 = .ok (.goto (-65), 3) := by decide +kernel
theorem dX7_wave_115 : decode cX7_wave 115 = .ok (.aload_n 0, 1) := by decide +kernel
theorem dX7_wave_116 : decode cX7_wave 116 = .ok (.invokevirtual 92, 3) := by decide +kernel
theorem dX7_wave_119 : decode cX7_wave 119 = .ok (.ireturn, 1) := by decide +kernel
theorem dX7_heap_0 : decode cX7_heap 0 = .ok (.aload_n 0, 1) := by decide +kernel
theorem dX7_heap_1 : decode cX7_heap 1 = .ok (.iload_n 1, 1) := by decide +kernel
theorem dX7_heap_2 : decode cX7_heap 2 = .ok (.iload_n 2, 1) := by decide +kernel
theorem dX7_heap_3 : decode cX7_heap 3 = .ok (.invokevirtual 69, 3) := by decide +kernel
theorem dX7_heap_6 : decode cX7_heap 6 = .ok (.ifCond .eq 25, 3) := by decide +kernel
theorem dX7_heap_9 : decode cX7_heap 9 = .ok (.iload_n 3, 1) := by decide +kernel
theorem dX7_heap_10 : decode cX7_heap 10 = .ok (.bipush (-99), 2) := by decide +kernel
theorem dX7_heap_12 : decode cX7_heap 12 = .ok (.bipush 99, 2) := by decide +kernel
theorem dX7_heap_14 : decode cX7_heap 14 = .ok (.invokestatic 65, 3) := by decide +kernel
theorem dX7_heap_17 : decode cX7_heap 17 = .ok (.ifCond .eq 14, 3) := by decide +kernel
theorem dX7_heap_20 : decode cX7_heap 20 = .ok (.iload 4, 2) := by decide +kernel
theorem dX7_heap_22 : decode cX7_heap 22 = .ok (.iconst 0, 1) := by decide +kernel
theorem dX7_heap_23 : decode cX7_heap 23 = .ok (.bipush 50, 2) := by decide +kernel
theorem dX7_heap_25 : decode cX7_heap 25 = .ok (.invokestatic 65, 3) := by decide +kernel
theorem dX7_heap_28 : decode cX7_heap 28 = .ok (.ifCond .ne 6, 3) := by decide +kernel
theorem dX7_heap_31 : decode cX7_heap 31 = .ok (.bipush (-2), 2) := by decide +kernel
theorem dX7_heap_33 : decode cX7_heap 33 = .ok (.ireturn, 1) := by decide +kernel
theorem dX7_heap_34 : decode cX7_heap 34 = .ok (.iconst 0, 1) := by decide +kernel
theorem dX7_heap_35 : decode cX7_heap 35 = .ok (.istore 5, 2) := by decide +kernel
theorem dX7_heap_37 : decode cX7_heap 37 = .ok (.iload 5, 2) := by decide +kernel
theorem dX7_heap_39 : decode cX7_heap 39 = .ok (.aload_n 0, 1) := by decide +kernel
theorem dX7_heap_40 : decode cX7_heap 40 = .ok (.invokevirtual 80, 3) := by decide +kernel
theorem dX7_heap_43 : decode cX7_heap 43 = .ok (.if_icmp .ge 112, 3) := by decide +kernel
theorem dX7_heap_46 : decode cX7_heap 46 = .ok (.iload 5, 2) := by decide +kernel
theorem dX7_heap_48 : decode cX7_heap 48 = .ok (.aload_n 0, 1) := by decide +kernel
theorem dX7_heap_49 : decode cX7_heap 49 = .ok (.getfield 7, 3) := by decide +kernel
theorem dX7_heap_52 : decode cX7_heap 52 = .ok (.sipush 288, 3) := by decide +kernel
theorem dX7_heap_55 : decode cX7_heap 55 = .ok (.iaload, 1) := by decide +kernel
theorem dX7_heap_56 : decode cX7_heap 56 = .ok (.irem, 1) := by decide +kernel
theorem dX7_heap_57 : decode cX7_heap 57 = .ok (.iload_n 1, 1) := by decide +kernel
theorem dX7_heap_58 : decode cX7_heap 58 = .ok (.isub, 1) := by decide +kernel
theorem dX7_heap_59 : decode cX7_heap 59 = .ok (.invokestatic 95, 3) := by decide +kernel
theorem dX7_heap_62 : decode cX7_heap 62 = .ok (.iload 5, 2) := by decide +kernel
theorem dX7_heap_64 : decode cX7_heap 64 = .ok (.aload_n 0, 1) := by decide +kernel
theorem dX7_heap_65 : decode cX7_heap 65 = .ok (.getfield 7, 3) := by decide +kernel
theorem dX7_heap_68 : decode cX7_heap 68 = .ok (.sipush 288, 3) := by decide +kernel
theorem dX7_heap_71 : decode cX7_heap 71 = .ok (.iaload, 1) := by decide +kernel
theorem dX7_heap_72 : decode cX7_heap 72 = .ok (.idiv, 1) := by decide +kernel
theorem dX7_heap_73 : decode cX7_heap 73 = .ok (.iload_n 2, 1) := by decide +kernel
theorem dX7_heap_74 : decode cX7_heap 74 = .ok (.isub, 1) := by decide +kernel
theorem dX7_heap_75 : decode cX7_heap 75 = .ok (.invokestatic 95, 3) := by decide +kernel
theorem dX7_heap_78 : decode cX7_heap 78 = .ok (.iadd, 1) := by decide +kernel
theorem dX7_heap_79 : decode cX7_heap 79 = .ok (.istore 6, 2) := by decide +kernel
theorem dX7_heap_81 : decode cX7_heap 81 = .ok (.iload_n 3, 1) := by decide +kernel
theorem dX7_heap_82 : decode cX7_heap 82 = .ok (.invokestatic 95, 3) := by decide +kernel
theorem dX7_heap_85 : decode cX7_heap 85 = .ok (.iload 4, 2) := by decide +kernel
theorem dX7_heap_87 : decode cX7_heap 87 = .ok (.iload 6, 2) := by decide +kernel
theorem dX7_heap_89 : decode cX7_heap 89 = .ok (.imul, 1) := by decide +kernel
theorem dX7_heap_90 : decode cX7_heap 90 = .ok (.isub, 1) := by decide +kernel
theorem dX7_heap_91 : decode cX7_heap 91 = .ok (.iconst 0, 1) := by decide +kernel
theorem dX7_heap_92 : decode cX7_heap 92 = .ok (.invokestatic 98, 3) := by decide +kernel
theorem dX7_heap_95 : decode cX7_heap 95 = .ok (.istore 7, 2) := by decide +kernel
theorem dX7_heap_97 : decode cX7_heap 97 = .ok (.aload_n 0, 1) := by decide +kernel
theorem dX7_heap_98 : decode cX7_heap 98 = .ok (.getfield 7, 3) := by decide +kernel
theorem dX7_heap_101 : decode cX7_heap 101 = .ok (.iload 5, 2) := by decide +kernel
theorem dX7_heap_103 : decode cX7_heap 103 = .ok (.iaload, 1) := by decide +kernel
theorem dX7_heap_104 : decode cX7_heap 104 = .ok (.iload_n 3, 1) := by decide +kernel
theorem dX7_heap_105 : decode cX7_heap 105 = .ok (.ifCond .ge 9, 3) := by decide +kernel
theorem dX7_heap_108 : decode cX7_heap 108 = .ok (.iload 7, 2) := by decide +kernel
theorem dX7_heap_110 : decode cX7_heap 110 = .ok (.ineg, 1) := by decide +kernel
theorem dX7_heap_111 : decode cX7_heap 111 = .ok (.goto 5, 3) := by decide +kernel
theorem dX7_heap_114 : decode cX7_heap 114 = .ok (.iload 7, 2) := by decide +kernel
theorem dX7_heap_116 : decode cX7_heap 116 = .ok (.iadd, 1) := by decide +kernel
theorem dX7_heap_117 : decode cX7_heap 117 = .ok (.istore 8, 2) := by decide +kernel
theorem dX7_heap_119 : decode cX7_heap 119 = .ok (.aload_n 0, 1) := by decide +kernel
theorem dX7_heap_120 : decode cX7_heap 120 = .ok (.getfield 7, 3) := by decide +kernel
theorem dX7_heap_123 : decode cX7_heap 123 = .ok (.iload 5, 2) := by decide +kernel
theorem dX7_heap_125 : decode cX7_heap 125 = .ok (.iload 8, 2) := by decide +kernel
theorem dX7_heap_127 : decode cX7_heap 127 = .ok (.ifCond .ge 7, 3) := by decide +kernel
theorem dX7_heap_130 : decode cX7_heap 130 = .ok (.iconst 0, 1) := by decide +kernel
theorem dX7_heap_131 : decode cX7_heap 131 = .ok (.goto 17, 3) := by decide +kernel
theorem dX7_heap_134 : decode cX7_heap 134 = .ok (.iload 8, 2) := by decide +kernel
theorem dX7_heap_136 : decode cX7_heap 136 = .ok (.bipush 99, 2) := by decide +kernel
theorem dX7_heap_138 : decode cX7_heap 138 = .ok (.if_icmp .le 8, 3) := by decide +kernel
theorem dX7_heap_141 : decode cX7_heap 141 = .ok (.bipush 99, 2) := by decide +kernel
theorem dX7_heap_143 : decode cX7_heap 143 = .ok (.goto 5, 3) := by decide +kernel
theorem dX7_heap_146 : decode cX7_heap 146 = .ok (.iload 8, 2) := by decide +kernel
theorem dX7_heap_148 : decode cX7_heap 148 = .ok (.iastore, 1) := by decide +kernel
theorem dX7_heap_149 : decode cX7_heap 149 = .ok (.iinc 5 1, 3) := by decide +kernel
theorem dX7_heap_152 : decode cX7_heap 152 = .ok (.goto (-115), 3) := by decide +kernel
theorem dX7_heap_155 : decode cX7_heap 155 = .ok (.aload_n 0, 1) := by decide +kernel
theorem dX7_heap_156 : decode cX7_heap 156 = .ok (.invokevirtual 92, 3) := by decide +kernel
theorem dX7_heap_159 : decode cX7_heap 159 = .ok (.ireturn, 1) := by decide +kernel
theorem dX7_put_0 : decode cX7_put 0 = .ok (.aload_n 0, 1) := by decide +kernel
theorem dX7_put_1 : decode cX7_put 1 = .ok (.iload_n 1, 1) := by decide +kernel
theorem dX7_put_2 : decode cX7_put 2 = .ok (.iload_n 2, 1) := by decide +kernel
theorem dX7_put_3 : decode cX7_put 3 = .ok (.invokevirtual 69, 3) := by decide +kernel
theorem dX7_put_6 : decode cX7_put 6 = .ok (.ifCond .eq 13, 3) := by decide +kernel
theorem dX7_put_9 : decode cX7_put 9 = .ok (.iload_n 3, 1) := by decide +kernel
theorem dX7_put_10 : decode cX7_put 10 = .ok (.iconst 0, 1) := by decide +kernel
theorem dX7_put_11 : decode cX7_put 11 = .ok (.bipush 99, 2) := by decide +kernel
theorem dX7_put_13 : decode cX7_put 13 = .ok (.invokestatic 65, 3) := by decide +kernel
theorem dX7_put_16 : decode cX7_put 16 = .ok (.ifCond .ne 6, 3) := by decide +kernel
theorem dX7_put_19 : decode cX7_put 19 = .ok (.bipush (-2), 2) := by decide +kernel
theorem dX7_put_21 : decode cX7_put 21 = .ok (.ireturn, 1) := by decide +kernel
theorem dX7_put_22 : decode cX7_put 22 = .ok (.aload_n 0, 1) := by decide +kernel
theorem dX7_put_23 : decode cX7_put 23 = .ok (.getfield 7, 3) := by decide +kernel
theorem dX7_put_26 : decode cX7_put 26 = .ok (.aload_n 0, 1) := by decide +kernel
theorem dX7_put_27 : decode cX7_put 27 = .ok (.iload_n 1, 1) := by decide +kernel
theorem dX7_put_28 : decode cX7_put 28 = .ok (.iload_n 2, 1) := by decide +kernel
theorem dX7_put_29 : decode cX7_put 29 = .ok (.invokevirtual 73, 3) := by decide +kernel
theorem dX7_put_32 : decode cX7_put 32 = .ok (.iload_n 3, 1) := by decide +kernel
theorem dX7_put_33 : decode cX7_put 33 = .ok (.iastore, 1) := by decide +kernel
theorem dX7_put_34 : decode cX7_put 34 = .ok (.aload_n 0, 1) := by decide +kernel
theorem dX7_put_35 : decode cX7_put 35 = .ok (.invokevirtual 92, 3) := by decide +kernel
theorem dX7_put_38 : decode cX7_put 38 = .ok (.ireturn, 1) := by decide +kernel
theorem dX7_mark_0 : decode cX7_mark 0 = .ok (.aload_n 0, 1) := by decide +kernel
theorem dX7_mark_1 : decode cX7_mark 1 = .ok (.iload_n 1, 1) := by decide +kernel
theorem dX7_mark_2 : decode cX7_mark 2 = .ok (.iload_n 2, 1) := by decide +kernel
theorem dX7_mark_3 : decode cX7_mark 3 = .ok (.invokevirtual 69, 3) := by decide +kernel
theorem dX7_mark_6 : decode cX7_mark 6 = .ok (.ifCond .eq 13, 3) := by decide +kernel
theorem dX7_mark_9 : decode cX7_mark 9 = .ok (.iload_n 3, 1) := by decide +kernel
theorem dX7_mark_10 : decode cX7_mark 10 = .ok (.iconst 0, 1) := by decide +kernel
theorem dX7_mark_11 : decode cX7_mark 11 = .ok (.bipush 99, 2) := by decide +kernel
theorem dX7_mark_13 : decode cX7_mark 13 = .ok (.invokestatic 65, 3) := by decide +kernel
theorem dX7_mark_16 : decode cX7_mark 16 = .ok (.ifCond .ne 6, 3) := by decide +kernel
theorem dX7_mark_19 : decode cX7_mark 19 = .ok (.bipush (-2), 2) := by decide +kernel
theorem dX7_mark_21 : decode cX7_mark 21 = .ok (.ireturn, 1) := by decide +kernel
theorem dX7_mark_22 : decode cX7_mark 22 = .ok (.aload_n 0, 1) := by decide +kernel
theorem dX7_mark_23 : decode cX7_mark 23 = .ok (.getfield 7, 3) := by decide +kernel
theorem dX7_mark_26 : decode cX7_mark 26 = .ok (.sipush 144, 3) := by decide +kernel
theorem dX7_mark_29 : decode cX7_mark 29 = .ok (.aload_n 0, 1) := by decide +kernel
theorem dX7_mark_30 : decode cX7_mark 30 = .ok (.iload_n 1, 1) := by decide +kernel
theorem dX7_mark_31 : decode cX7_mark 31 = .ok (.iload_n 2, 1) := by decide +kernel
theorem dX7_mark_32 : decode cX7_mark 32 = .ok (.invokevirtual 73, 3) := by decide +kernel
theorem dX7_mark_35 : decode cX7_mark 35 = .ok (.iadd, 1) := by decide +kernel
theorem dX7_mark_36 : decode cX7_mark 36 = .ok (.iaload, 1) := by decide +kernel
theorem dX7_mark_37 : decode cX7_mark 37 = .ok (.istore 4, 2) := by decide +kernel
theorem dX7_mark_39 : decode cX7_mark 39 = .ok (.aload_n 0, 1) := by decide +kernel
theorem dX7_mark_40 : decode cX7_mark 40 = .ok (.getfield 7, 3) := by decide +kernel
theorem dX7_mark_43 : decode cX7_mark 43 = .ok (.sipush 144, 3) := by decide +kernel
theorem dX7_mark_46 : decode cX7_mark 46 = .ok (.aload_n 0, 1) := by decide +kernel
theorem dX7_mark_47 : decode cX7_mark 47 = .ok (.iload_n 1, 1) := by decide +kernel
theorem dX7_mark_48 : decode cX7_mark 48 = .ok (.iload_n 2, 1) := by decide +kernel
theorem dX7_mark_49 : decode cX7_mark 49 = .ok (.invokevirtual 73, 3) := by decide +kernel
theorem dX7_mark_52 : decode cX7_mark 52 = .ok (.iadd, 1) := by decide +kernel
theorem dX7_mark_53 : decode cX7_mark 53 = .ok (.iload_n 3, 1) := by decide +kernel
theorem dX7_mark_54 : decode cX7_mark 54 = .ok (.iastore, 1) := by decide +kernel
theorem dX7_mark_55 : decode cX7_mark 55 = .ok (.iload 4, 2) := by decide +kernel
theorem dX7_mark_57 : decode cX7_mark 57 = .ok (.ireturn, 1) := by decide +kernel
theorem dX7_pits_0 : decode cX7_pits 0 = .ok (.aload_n 0, 1) := by decide +kernel
theorem dX7_pits_1 : decode cX7_pits 1 = .ok (.invokevirtual 92, 3) := by decide +kernel
theorem dX7_pits_4 : decode cX7_pits 4 = .ok (.istore_n 1, 1) := by decide +kernel
theorem dX7_pits_5 : decode cX7_pits 5 = .ok (.iconst 0, 1) := by decide +kernel
theorem dX7_pits_6 : decode cX7_pits 6 = .ok (.istore_n 2, 1) := by decide +kernel
theorem dX7_pits_7 : decode cX7_pits 7 = .ok (.iload_n 2, 1) := by decide +kernel
theorem dX7_pits_8 : decode cX7_pits 8 = .ok (.sipush 144, 3) := by decide +kernel
theorem dX7_pits_11 : decode cX7_pits 11 = .ok (.if_icmp .ge 42, 3) := by decide +kernel
theorem dX7_pits_14 : decode cX7_pits 14 = .ok (.aload_n 0, 1) := by decide +kernel
theorem dX7_pits_15 : decode cX7_pits 15 = .ok (.getfield 7, 3) := by decide +kernel
theorem dX7_pits_18 : decode cX7_pits 18 = .ok (.sipush 144, 3) := by decide +kernel
theorem dX7_pits_21 : decode cX7_pits 21 = .ok (.iload_n 2, 1) := by decide +kernel
theorem dX7_pits_22 : decode cX7_pits 22 = .ok (.iadd, 1) := by decide +kernel
theorem dX7_pits_23 : decode cX7_pits 23 = .ok (.aload_n 0, 1) := by decide +kernel
theorem dX7_pits_24 : decode cX7_pits 24 = .ok (.getfield 20, 3) := by decide +kernel
theorem dX7_pits_27 : decode cX7_pits 27 = .ok (.iload_n 2, 1) := by decide +kernel
theorem dX7_pits_28 : decode cX7_pits 28 = .ok (.iaload, 1) := by decide +kernel
theorem dX7_pits_29 : decode cX7_pits 29 = .ok (.bipush (-6), 2) := by decide +kernel
theorem dX7_pits_31 : decode cX7_pits 31 = .ok (.if_icmp .ne 7, 3) := by decide +kernel
theorem dX7_pits_34 : decode cX7_pits 34 = .ok (.iconst 0, 1) := by decide +kernel
theorem dX7_pits_35 : decode cX7_pits 35 = .ok (.goto 11, 3) := by decide +kernel
theorem dX7_pits_38 : decode cX7_pits 38 = .ok (.aload_n 0, 1) := by decide +kernel
theorem dX7_pits_39 : decode cX7_pits 39 = .ok (.getfield 20, 3) := by decide +kernel
theorem dX7_pits_42 : decode cX7_pits 42 = .ok (.iload_n 2, 1) := by decide +kernel
theorem dX7_pits_43 : decode cX7_pits 43 = .ok (.iaload, 1) := by decide +kernel
theorem dX7_pits_44 : decode cX7_pits 44 = .ok (.iconst 1, 1) := by decide +kernel
theorem dX7_pits_45 : decode cX7_pits 45 = .ok (.iadd, 1) := by decide +kernel
theorem dX7_pits_46 : decode cX7_pits 46 = .ok (.iastore, 1) := by decide +kernel
theorem dX7_pits_47 : decode cX7_pits 47 = .ok (.iinc 2 1, 3) := by decide +kernel
theorem dX7_pits_50 : decode cX7_pits 50 = .ok (.goto (-43), 3) := by decide +kernel
theorem dX7_pits_53 : decode cX7_pits 53 = .ok (.iload_n 1, 1) := by decide +kernel
theorem dX7_pits_54 : decode cX7_pits 54 = .ok (.ireturn, 1) := by decide +kernel
theorem dX7_spill_0 : decode cX7_spill 0 = .ok (.iconst 0, 1) := by decide +kernel
theorem dX7_spill_1 : decode cX7_spill 1 = .ok (.istore_n 2, 1) := by decide +kernel
theorem dX7_spill_2 : decode cX7_spill 2 = .ok (.iload_n 2, 1) := by decide +kernel
theorem dX7_spill_3 : decode cX7_spill 3 = .ok (.iconst 4, 1) := by decide +kernel
theorem dX7_spill_4 : decode cX7_spill 4 = .ok (.if_icmp .ge 93, 3) := by decide +kernel
theorem dX7_spill_7 : decode cX7_spill 7 = .ok (.aload_n 0, 1) := by decide +kernel
theorem dX7_spill_8 : decode cX7_spill 8 = .ok (.iload_n 1, 1) := by decide +kernel
theorem dX7_spill_9 : decode cX7_spill 9 = .ok (.iload_n 2, 1) := by decide +kernel
theorem dX7_spill_10 : decode cX7_spill 10 = .ok (.invokevirtual 77, 3) := by decide +kernel
theorem dX7_spill_13 : decode cX7_spill 13 = .ok (.istore_n 3, 1) := by decide +kernel
theorem dX7_spill_14 : decode cX7_spill 14 = .ok (.iload_n 3, 1) := by decide +kernel
theorem dX7_spill_15 : decode cX7_spill 15 = .ok (.ifCond .lt 76, 3) := by decide +kernel
theorem dX7_spill_18 : decode cX7_spill 18 = .ok (.aload_n 0, 1) := by decide +kernel
theorem dX7_spill_19 : decode cX7_spill 19 = .ok (.getfield 29, 3) := by decide +kernel
theorem dX7_spill_22 : decode cX7_spill 22 = .ok (.iload_n 3, 1) := by decide +kernel
theorem dX7_spill_23 : decode cX7_spill 23 = .ok (.iaload, 1) := by decide +kernel
theorem dX7_spill_24 : decode cX7_spill 24 = .ok (.bipush (-6), 2) := by decide +kernel
theorem dX7_spill_26 : decode cX7_spill 26 = .ok (.if_icmp .ne 65, 3) := by decide +kernel
theorem dX7_spill_29 : decode cX7_spill 29 = .ok (.aload_n 0, 1) := by decide +kernel
theorem dX7_spill_30 : decode cX7_spill 30 = .ok (.getfield 32, 3) := by decide +kernel
theorem dX7_spill_33 : decode cX7_spill 33 = .ok (.iload_n 3, 1) := by decide +kernel
theorem dX7_spill_34 : decode cX7_spill 34 = .ok (.iaload, 1) := by decide +kernel
theorem dX7_spill_35 : decode cX7_spill 35 = .ok (.bipush (-6), 2) := by decide +kernel
theorem dX7_spill_37 : decode cX7_spill 37 = .ok (.if_icmp .ne 54, 3) := by decide +kernel
theorem dX7_spill_40 : decode cX7_spill 40 = .ok (.aload_n 0, 1) := by decide +kernel
theorem dX7_spill_41 : decode cX7_spill 41 = .ok (.getfield 32, 3) := by decide +kernel
theorem dX7_spill_44 : decode cX7_spill 44 = .ok (.iload_n 3, 1) := by decide +kernel
theorem dX7_spill_45 : decode cX7_spill 45 = .ok (.aload_n 0, 1) := by decide +kernel
theorem dX7_spill_46 : decode cX7_spill 46 = .ok (.getfield 7, 3) := by decide +kernel
theorem dX7_spill_49 : decode cX7_spill 49 = .ok (.iload_n 3, 1) := by decide +kernel
theorem dX7_spill_50 : decode cX7_spill 50 = .ok (.iaload, 1) := by decide +kernel
theorem dX7_spill_51 : decode cX7_spill 51 = .ok (.aload_n 0, 1) := by decide +kernel
theorem dX7_spill_52 : decode cX7_spill 52 = .ok (.getfield 32, 3) := by decide +kernel
theorem dX7_spill_55 : decode cX7_spill 55 = .ok (.iload_n 1, 1) := by decide +kernel
theorem dX7_spill_56 : decode cX7_spill 56 = .ok (.iaload, 1) := by decide +kernel
theorem dX7_spill_57 : decode cX7_spill 57 = .ok (.invokestatic 98, 3) := by decide +kernel
theorem dX7_spill_60 : decode cX7_spill 60 = .ok (.iastore, 1) := by decide +kernel
theorem dX7_spill_61 : decode cX7_spill 61 = .ok (.aload_n 0, 1) := by decide +kernel
theorem dX7_spill_62 : decode cX7_spill 62 = .ok (.getfield 38, 3) := by decide +kernel
theorem dX7_spill_65 : decode cX7_spill 65 = .ok (.aload_n 0, 1) := by decide +kernel
theorem dX7_spill_66 : decode cX7_spill 66 = .ok (.getfield 101, 3) := by decide +kernel
theorem dX7_spill_69 : decode cX7_spill 69 = .ok (.iload_n 3, 1) := by decide +kernel
theorem dX7_spill_70 : decode cX7_spill 70 = .ok (.iastore, 1) := by decide +kernel
theorem dX7_spill_71 : decode cX7_spill 71 = .ok (.aload_n 0, 1) := by decide +kernel
theorem dX7_spill_72 : decode cX7_spill 72 = .ok (.getfield 41, 3) := by decide +kernel
theorem dX7_spill_75 : decode cX7_spill 75 = .ok (.aload_n 0, 1) := by decide +kernel
theorem dX7_spill_76 : decode cX7_spill 76 = .ok (.getfield 101, 3) := by decide +kernel
theorem dX7_spill_79 : decode cX7_spill 79 = .ok (.iconst 0, 1) := by decide +kernel
theorem dX7_spill_80 : decode cX7_spill 80 = .ok (.bastore, 1) := by decide +kernel
theorem dX7_spill_81 : decode cX7_spill 81 = .ok (.aload_n 0, 1) := by decide +kernel
theorem dX7_spill_82 : decode cX7_spill 82 = .ok (.dup, 1) := by decide +kernel
theorem dX7_spill_83 : decode cX7_spill 83 = .ok (.getfield 101, 3) := by decide +kernel
theorem dX7_spill_86 : decode cX7_spill 86 = .ok (.iconst 1, 1) := by decide +kernel
theorem dX7_spill_87 : decode cX7_spill 87 = .ok (.iadd, 1) := by decide +kernel
theorem dX7_spill_88 : decode cX7_spill 88 = .ok (.putfield 101, 3) := by decide +kernel
theorem dX7_spill_91 : decode cX7_spill 91 = .ok (.iinc 2 1, 3) := by decide +kernel
theorem dX7_spill_94 : decode cX7_spill 94 = .ok (.goto (-92), 3) := by decide +kernel
theorem dX7_spill_97 : decode cX7_spill 97 = .ok (.return_, 1) := by decide +kernel
theorem dX7_first_0 : decode cX7_first 0 = .ok (.bipush (-6), 2) := by decide +kernel
theorem dX7_first_2 : decode cX7_first 2 = .ok (.istore_n 1, 1) := by decide +kernel
theorem dX7_first_3 : decode cX7_first 3 = .ok (.iconst 0, 1) := by decide +kernel
theorem dX7_first_4 : decode cX7_first 4 = .ok (.istore_n 2, 1) := by decide +kernel
theorem dX7_first_5 : decode cX7_first 5 = .ok (.iload_n 2, 1) := by decide +kernel
theorem dX7_first_6 : decode cX7_first 6 = .ok (.aload_n 0, 1) := by decide +kernel
theorem dX7_first_7 : decode cX7_first 7 = .ok (.getfield 101, 3) := by decide +kernel
theorem dX7_first_10 : decode cX7_first 10 = .ok (.if_icmp .ge 49, 3) := by decide +kernel
theorem dX7_first_13 : decode cX7_first 13 = .ok (.aload_n 0, 1) := by decide +kernel
theorem dX7_first_14 : decode cX7_first 14 = .ok (.getfield 41, 3) := by decide +kernel
theorem dX7_first_17 : decode cX7_first 17 = .ok (.iload_n 2, 1) := by decide +kernel
theorem dX7_first_18 : decode cX7_first 18 = .ok (.baload, 1) := by decide +kernel
theorem dX7_first_19 : decode cX7_first 19 = .ok (.ifCond .ne 34, 3) := by decide +kernel
theorem dX7_first_22 : decode cX7_first 22 = .ok (.iload_n 1, 1) := by decide +kernel
theorem dX7_first_23 : decode cX7_first 23 = .ok (.ifCond .lt 28, 3) := by decide +kernel
theorem dX7_first_26 : decode cX7_first 26 = .ok (.aload_n 0, 1) := by decide +kernel
theorem dX7_first_27 : decode cX7_first 27 = .ok (.getfield 32, 3) := by decide +kernel
theorem dX7_first_30 : decode cX7_first 30 = .ok (.aload_n 0, 1) := by decide +kernel
theorem dX7_first_31 : decode cX7_first 31 = .ok (.getfield 38, 3) := by decide +kernel
theorem dX7_first_34 : decode cX7_first 34 = .ok (.iload_n 2, 1) := by decide +kernel
theorem dX7_first_35 : decode cX7_first 35 = .ok (.iaload, 1) := by decide +kernel
theorem dX7_first_36 : decode cX7_first 36 = .ok (.iaload, 1) := by decide +kernel
theorem dX7_first_37 : decode cX7_first 37 = .ok (.aload_n 0, 1) := by decide +kernel
theorem dX7_first_38 : decode cX7_first 38 = .ok (.getfield 32, 3) := by decide +kernel
theorem dX7_first_41 : decode cX7_first 41 = .ok (.aload_n 0, 1) := by decide +kernel
theorem dX7_first_42 : decode cX7_first 42 = .ok (.getfield 38, 3) := by decide +kernel
theorem dX7_first_45 : decode cX7_first 45 = .ok (.iload_n 1, 1) := by decide +kernel
theorem dX7_first_46 : decode cX7_first 46 = .ok (.iaload, 1) := by decide +kernel
theorem dX7_first_47 : decode cX7_first 47 = .ok (.iaload, 1) := by decide +kernel
theorem dX7_first_48 : decode cX7_first 48 = .ok (.if_icmp .ge 5, 3) := by decide +kernel
theorem dX7_first_51 : decode cX7_first 51 = .ok (.iload_n 2, 1) := by decide +kernel
theorem dX7_first_52 : decode cX7_first 52 = .ok (.istore_n 1, 1) := by decide +kernel
theorem dX7_first_53 : decode cX7_first 53 = .ok (.iinc 2 1, 3) := by decide +kernel
theorem dX7_first_56 : decode cX7_first 56 = .ok (.goto (-51), 3) := by decide +kernel
theorem dX7_first_59 : decode cX7_first 59 = .ok (.iload_n 1, 1) := by decide +kernel
theorem dX7_first_60 : decode cX7_first 60 = .ok (.ireturn, 1) := by decide +kernel
theorem dX7_basinBeside_0 : decode cX7_basinBeside 0 = .ok (.bipush (-6), 2) := by decide +kernel
theorem dX7_basinBeside_2 : decode cX7_basinBeside 2 = .ok (.istore_n 3, 1) := by decide +kernel
theorem dX7_basinBeside_3 : decode cX7_basinBeside 3 = .ok (.iconst 0, 1) := by decide +kernel
theorem dX7_basinBeside_4 : decode cX7_basinBeside 4 = .ok (.istore 4, 2) := by decide +kernel
theorem dX7_basinBeside_6 : decode cX7_basinBeside 6 = .ok (.iload 4, 2) := by decide +kernel
theorem dX7_basinBeside_8 : decode cX7_basinBeside 8 = .ok (.iconst 4, 1) := by decide +kernel
theorem dX7_basinBeside_9 : decode cX7_basinBeside 9 = .ok (.if_icmp .ge 58, 3) := by decide +kernel
theorem dX7_basinBeside_12 : decode cX7_basinBeside 12 = .ok (.aload_n 0, 1) := by decide +kernel
theorem dX7_basinBeside_13 : decode cX7_basinBeside 13 = .ok (.iload_n 2, 1) := by decide +kernel
theorem dX7_basinBeside_14 : decode cX7_basinBeside 14 = .ok (.iload 4, 2) := by decide +kernel
theorem dX7_basinBeside_16 : decode cX7_basinBeside 16 = .ok (.invokevirtual 77, 3) := by decide +kernel
theorem dX7_basinBeside_19 : decode cX7_basinBeside 19 = .ok (.istore 5, 2) := by decide +kernel
theorem dX7_basinBeside_21 : decode cX7_basinBeside 21 = .ok (.iload 5, 2) := by decide +kernel
theorem dX7_basinBeside_23 : decode cX7_basinBeside 23 = .ok (.ifCond .ge 8, 3) := by decide +kernel
theorem dX7_basinBeside_26 : decode cX7_basinBeside 26 = .ok (.bipush (-6), 2) := by decide +kernel
theorem dX7_basinBeside_28 : decode cX7_basinBeside 28 = .ok (.goto 7, 3) := by decide +kernel
theorem dX7_basinBeside_31 : decode cX7_basinBeside 31 = .ok (.aload_n 1, 1) := by decide +kernel
theorem dX7_basinBeside_32 : decode cX7_basinBeside 32 = .ok (.iload 5, 2) := by decide +kernel
theorem dX7_basinBeside_34 : decode cX7_basinBeside 34 = .ok (.iaload, 1) := by decide +kernel
theorem dX7_basinBeside_35 : decode cX7_basinBeside 35 = .ok (.istore 6, 2) := by decide +kernel
theorem dX7_basinBeside_37 : decode cX7_basinBeside 37 = .ok (.iload 6, 2) := by decide +kernel
theorem dX7_basinBeside_39 : decode cX7_basinBeside 39 = .ok (.ifCond .le 22, 3) := by decide +kernel
theorem dX7_basinBeside_42 : decode cX7_basinBeside 42 = .ok (.iload_n 3, 1) := by decide +kernel
theorem dX7_basinBeside_43 : decode cX7_basinBeside 43 = .ok (.bipush (-6), 2) := by decide +kernel
theorem dX7_basinBeside_45 : decode cX7_basinBeside 45 = .ok (.if_icmp .eq 9, 3) := by decide +kernel
theorem dX7_basinBeside_48 : decode cX7_basinBeside 48 = .ok (.iload_n 3, 1) := by decide +kernel
theorem dX7_basinBeside_49 : decode cX7_basinBeside 49 = .ok (.iload 6, 2) := by decide +kernel
theorem dX7_basinBeside_51 : decode cX7_basinBeside 51 = .ok (.if_icmp .ne 8, 3) := by decide +kernel
theorem dX7_basinBeside_54 : decode cX7_basinBeside 54 = .ok (.iload 6, 2) := by decide +kernel
theorem dX7_basinBeside_56 : decode cX7_basinBeside 56 = .ok (.goto 4, 3) := by decide +kernel
theorem dX7_basinBeside_59 : decode cX7_basinBeside 59 = .ok (.iconst 0, 1) := by decide +kernel
theorem dX7_basinBeside_60 : decode cX7_basinBeside 60 = .ok (.istore_n 3, 1) := by decide +kernel
theorem dX7_basinBeside_61 : decode cX7_basinBeside 61 = .ok (.iinc 4 1, 3) := by decide +kernel
theorem dX7_basinBeside_64 : decode cX7_basinBeside 64 = .ok (.goto (-58), 3) := by decide +kernel
theorem dX7_basinBeside_67 : decode cX7_basinBeside 67 = .ok (.iload_n 3, 1) := by decide +kernel
theorem dX7_basinBeside_68 : decode cX7_basinBeside 68 = .ok (.ireturn, 1) := by decide +kernel
theorem dX7_flood_0 : decode cX7_flood 0 = .ok (.aload_n 0, 1) := by decide +kernel
theorem dX7_flood_1 : decode cX7_flood 1 = .ok (.iconst 0, 1) := by decide +kernel
theorem dX7_flood_2 : decode cX7_flood 2 = .ok (.putfield 101, 3) := by decide +kernel
theorem dX7_flood_5 : decode cX7_flood 5 = .ok (.iconst 0, 1) := by decide +kernel
theorem dX7_flood_6 : decode cX7_flood 6 = .ok (.istore_n 1, 1) := by decide +kernel
theorem dX7_flood_7 : decode cX7_flood 7 = .ok (.iload_n 1, 1) := by decide +kernel
theorem dX7_flood_8 : decode cX7_flood 8 = .ok (.sipush 144, 3) := by decide +kernel
theorem dX7_flood_11 : decode cX7_flood 11 = .ok (.if_icmp .ge 98, 3) := by decide +kernel
theorem dX7_flood_14 : decode cX7_flood 14 = .ok (.iload_n 1, 1) := by decide +kernel
theorem dX7_flood_15 : decode cX7_flood 15 = .ok (.aload_n 0, 1) := by decide +kernel
theorem dX7_flood_16 : decode cX7_flood 16 = .ok (.invokevirtual 80, 3) := by decide +kernel
theorem dX7_flood_19 : decode cX7_flood 19 = .ok (.if_icmp .ge 20, 3) := by decide +kernel
theorem dX7_flood_22 : decode cX7_flood 22 = .ok (.aload_n 0, 1) := by decide +kernel
theorem dX7_flood_23 : decode cX7_flood 23 = .ok (.getfield 7, 3) := by decide +kernel
theorem dX7_flood_26 : decode cX7_flood 26 = .ok (.sipush 144, 3) := by decide +kernel
theorem dX7_flood_29 : decode cX7_flood 29 = .ok (.iload_n 1, 1) := by decide +kernel
theorem dX7_flood_30 : decode cX7_flood 30 = .ok (.iadd, 1) := by decide +kernel
theorem dX7_flood_31 : decode cX7_flood 31 = .ok (.iaload, 1) := by decide +kernel
theorem dX7_flood_32 : decode cX7_flood 32 = .ok (.ifCond .le 7, 3) := by decide +kernel
theorem dX7_flood_35 : decode cX7_flood 35 = .ok (.iconst 1, 1) := by decide +kernel
theorem dX7_flood_36 : decode cX7_flood 36 = .ok (.goto 4, 3) := by decide +kernel
theorem dX7_flood_39 : decode cX7_flood 39 = .ok (.iconst 0, 1) := by decide +kernel
theorem dX7_flood_40 : decode cX7_flood 40 = .ok (.istore_n 2, 1) := by decide +kernel
theorem dX7_flood_41 : decode cX7_flood 41 = .ok (.aload_n 0, 1) := by decide +kernel
theorem dX7_flood_42 : decode cX7_flood 42 = .ok (.getfield 29, 3) := by decide +kernel
theorem dX7_flood_45 : decode cX7_flood 45 = .ok (.iload_n 1, 1) := by decide +kernel
theorem dX7_flood_46 : decode cX7_flood 46 = .ok (.iload_n 2, 1) := by decide +kernel
theorem dX7_flood_47 : decode cX7_flood 47 = .ok (.ifCond .eq 16, 3) := by decide +kernel
theorem dX7_flood_50 : decode cX7_flood 50 = .ok (.aload_n 0, 1) := by decide +kernel
theorem dX7_flood_51 : decode cX7_flood 51 = .ok (.getfield 7, 3) := by decide +kernel
theorem dX7_flood_54 : decode cX7_flood 54 = .ok (.sipush 144, 3) := by decide +kernel
theorem dX7_flood_57 : decode cX7_flood 57 = .ok (.iload_n 1, 1) := by decide +kernel
theorem dX7_flood_58 : decode cX7_flood 58 = .ok (.iadd, 1) := by decide +kernel
theorem dX7_flood_59 : decode cX7_flood 59 = .ok (.iaload, 1) := by decide +kernel
theorem dX7_flood_60 : decode cX7_flood 60 = .ok (.goto 5, 3) := by decide +kernel
theorem dX7_flood_63 : decode cX7_flood 63 = .ok (.bipush (-6), 2) := by decide +kernel
theorem dX7_flood_65 : decode cX7_flood 65 = .ok (.iastore, 1) := by decide +kernel
theorem dX7_flood_66 : decode cX7_flood 66 = .ok (.aload_n 0, 1) := by decide +kernel
theorem dX7_flood_67 : decode cX7_flood 67 = .ok (.getfield 32, 3) := by decide +kernel
theorem dX7_flood_70 : decode cX7_flood 70 = .ok (.iload_n 1, 1) := by decide +kernel
theorem dX7_flood_71 : decode cX7_flood 71 = .ok (.iload_n 2, 1) := by decide +kernel
theorem dX7_flood_72 : decode cX7_flood 72 = .ok (.ifCond .eq 12, 3) := by decide +kernel
theorem dX7_flood_75 : decode cX7_flood 75 = .ok (.aload_n 0, 1) := by decide +kernel
theorem dX7_flood_76 : decode cX7_flood 76 = .ok (.getfield 7, 3) := by decide +kernel
theorem dX7_flood_79 : decode cX7_flood 79 = .ok (.iload_n 1, 1) := by decide +kernel
theorem dX7_flood_80 : decode cX7_flood 80 = .ok (.iaload, 1) := by decide +kernel
theorem dX7_flood_81 : decode cX7_flood 81 = .ok (.goto 5, 3) := by decide +kernel
theorem dX7_flood_84 : decode cX7_flood 84 = .ok (.bipush (-6), 2) := by decide +kernel
theorem dX7_flood_86 : decode cX7_flood 86 = .ok (.iastore, 1) := by decide +kernel
theorem dX7_flood_87 : decode cX7_flood 87 = .ok (.aload_n 0, 1) := by decide +kernel
theorem dX7_flood_88 : decode cX7_flood 88 = .ok (.getfield 35, 3) := by decide +kernel
theorem dX7_flood_91 : decode cX7_flood 91 = .ok (.iload_n 1, 1) := by decide +kernel
theorem dX7_flood_92 : decode cX7_flood 92 = .ok (.iload_n 2, 1) := by decide +kernel
theorem dX7_flood_93 : decode cX7_flood 93 = .ok (.ifCond .eq 7, 3) := by decide +kernel
theorem dX7_flood_96 : decode cX7_flood 96 = .ok (.iconst 0, 1) := by decide +kernel
theorem dX7_flood_97 : decode cX7_flood 97 = .ok (.goto 5, 3) := by decide +kernel
theorem dX7_flood_100 : decode cX7_flood 100 = .ok (.bipush (-6), 2) := by decide +kernel
theorem dX7_flood_102 : decode cX7_flood 102 = .ok (.iastore, 1) := by decide +kernel
theorem dX7_flood_103 : decode cX7_flood 103 = .ok (.iinc 1 1, 3) := by decide +kernel
theorem dX7_flood_106 : decode cX7_flood 106 = .ok (.goto (-99), 3) := by decide +kernel
theorem dX7_flood_109 : decode cX7_flood 109 = .ok (.iconst 0, 1) := by decide +kernel
theorem dX7_flood_110 : decode cX7_flood 110 = .ok (.istore_n 1, 1) := by decide +kernel
theorem dX7_flood_111 : decode cX7_flood 111 = .ok (.iload_n 1, 1) := by decide +kernel
theorem dX7_flood_112 : decode cX7_flood 112 = .ok (.aload_n 0, 1) := by decide +kernel
theorem dX7_flood_113 : decode cX7_flood 113 = .ok (.invokevirtual 80, 3) := by decide +kernel
theorem dX7_flood_116 : decode cX7_flood 116 = .ok (.if_icmp .ge 27, 3) := by decide +kernel
theorem dX7_flood_119 : decode cX7_flood 119 = .ok (.aload_n 0, 1) := by decide +kernel
theorem dX7_flood_120 : decode cX7_flood 120 = .ok (.getfield 7, 3) := by decide +kernel
theorem dX7_flood_123 : decode cX7_flood 123 = .ok (.sipush 144, 3) := by decide +kernel
theorem dX7_flood_126 : decode cX7_flood 126 = .ok (.iload_n 1, 1) := by decide +kernel
theorem dX7_flood_127 : decode cX7_flood 127 = .ok (.iadd, 1) := by decide +kernel
theorem dX7_flood_128 : decode cX7_flood 128 = .ok (.iaload, 1) := by decide +kernel
theorem dX7_flood_129 : decode cX7_flood 129 = .ok (.ifCond .le 8, 3) := by decide +kernel
theorem dX7_flood_132 : decode cX7_flood 132 = .ok (.aload_n 0, 1) := by decide +kernel
theorem dX7_flood_133 : decode cX7_flood 133 = .ok (.iload_n 1, 1) := by decide +kernel
theorem dX7_flood_134 : decode cX7_flood 134 = .ok (.invokevirtual 105, 3) := by decide +kernel
theorem dX7_flood_137 : decode cX7_flood 137 = .ok (.iinc 1 1, 3) := by decide +kernel
theorem dX7_flood_140 : decode cX7_flood 140 = .ok (.goto (-29), 3) := by decide +kernel
theorem dX7_flood_143 : decode cX7_flood 143 = .ok (.aload_n 0, 1) := by decide +kernel
theorem dX7_flood_144 : decode cX7_flood 144 = .ok (.invokevirtual 109, 3) := by decide +kernel
theorem dX7_flood_147 : decode cX7_flood 147 = .ok (.istore_n 1, 1) := by decide +kernel
theorem dX7_flood_148 : decode cX7_flood 148 = .ok (.iconst 0, 1) := by decide +kernel
theorem dX7_flood_149 : decode cX7_flood 149 = .ok (.istore_n 2, 1) := by decide +kernel
theorem dX7_flood_150 : decode cX7_flood 150 = .ok (.iload_n 1, 1) := by decide +kernel
theorem dX7_flood_151 : decode cX7_flood 151 = .ok (.ifCond .lt 64, 3) := by decide +kernel
theorem dX7_flood_154 : decode cX7_flood 154 = .ok (.aload_n 0, 1) := by decide +kernel
theorem dX7_flood_155 : decode cX7_flood 155 = .ok (.getfield 41, 3) := by decide +kernel
theorem dX7_flood_158 : decode cX7_flood 158 = .ok (.iload_n 1, 1) := by decide +kernel
theorem dX7_flood_159 : decode cX7_flood 159 = .ok (.iconst 1, 1) := by decide +kernel
theorem dX7_flood_160 : decode cX7_flood 160 = .ok (.bastore, 1) := by decide +kernel
theorem dX7_flood_161 : decode cX7_flood 161 = .ok (.iinc 2 1, 3) := by decide +kernel
theorem dX7_flood_164 : decode cX7_flood 164 = .ok (.aload_n 0, 1) := by decide +kernel
theorem dX7_flood_165 : decode cX7_flood 165 = .ok (.getfield 38, 3) := by decide +kernel
theorem dX7_flood_168 : decode cX7_flood 168 = .ok (.iload_n 1, 1) := by decide +kernel
theorem dX7_flood_169 : decode cX7_flood 169 = .ok (.iaload, 1) := by decide +kernel
theorem dX7_flood_170 : decode cX7_flood 170 = .ok (.istore_n 3, 1) := by decide +kernel
theorem dX7_flood_171 : decode cX7_flood 171 = .ok (.aload_n 0, 1) := by decide +kernel
theorem dX7_flood_172 : decode cX7_flood 172 = .ok (.getfield 35, 3) := by decide +kernel
theorem dX7_flood_175 : decode cX7_flood 175 = .ok (.iload_n 3, 1) := by decide +kernel
theorem dX7_flood_176 : decode cX7_flood 176 = .ok (.iload_n 2, 1) := by decide +kernel
theorem dX7_flood_177 : decode cX7_flood 177 = .ok (.iastore, 1) := by decide +kernel
theorem dX7_flood_178 : decode cX7_flood 178 = .ok (.aload_n 0, 1) := by decide +kernel
theorem dX7_flood_179 : decode cX7_flood 179 = .ok (.getfield 29, 3) := by decide +kernel
theorem dX7_flood_182 : decode cX7_flood 182 = .ok (.iload_n 3, 1) := by decide +kernel
theorem dX7_flood_183 : decode cX7_flood 183 = .ok (.aload_n 0, 1) := by decide +kernel
theorem dX7_flood_184 : decode cX7_flood 184 = .ok (.aload_n 0, 1) := by decide +kernel
theorem dX7_flood_185 : decode cX7_flood 185 = .ok (.getfield 29, 3) := by decide +kernel
theorem dX7_flood_188 : decode cX7_flood 188 = .ok (.iload_n 3, 1) := by decide +kernel
theorem dX7_flood_189 : decode cX7_flood 189 = .ok (.invokevirtual 112, 3) := by decide +kernel
theorem dX7_flood_192 : decode cX7_flood 192 = .ok (.iastore, 1) := by decide +kernel
theorem dX7_flood_193 : decode cX7_flood 193 = .ok (.aload_n 0, 1) := by decide +kernel
theorem dX7_flood_194 : decode cX7_flood 194 = .ok (.getfield 29, 3) := by decide +kernel
theorem dX7_flood_197 : decode cX7_flood 197 = .ok (.iload_n 3, 1) := by decide +kernel
theorem dX7_flood_198 : decode cX7_flood 198 = .ok (.iaload, 1) := by decide +kernel
theorem dX7_flood_199 : decode cX7_flood 199 = .ok (.ifCond .le 8, 3) := by decide +kernel
theorem dX7_flood_202 : decode cX7_flood 202 = .ok (.aload_n 0, 1) := by decide +kernel
theorem dX7_flood_203 : decode cX7_flood 203 = .ok (.iload_n 3, 1) := by decide +kernel
theorem dX7_flood_204 : decode cX7_flood 204 = .ok (.invokevirtual 105, 3) := by decide +kernel
theorem dX7_flood_207 : decode cX7_flood 207 = .ok (.aload_n 0, 1) := by decide +kernel
theorem dX7_flood_208 : decode cX7_flood 208 = .ok (.invokevirtual 109, 3) := by decide +kernel
theorem dX7_flood_211 : decode cX7_flood 211 = .ok (.istore_n 1, 1) := by decide +kernel
theorem dX7_flood_212 : decode cX7_flood 212 = .ok (.goto (-62), 3) := by decide +kernel
theorem dX7_flood_215 : decode cX7_flood 215 = .ok (.return_, 1) := by decide +kernel
theorem dX7_dotsOf_0 : decode cX7_dotsOf 0 = .ok (.iconst 0, 1) := by decide +kernel
theorem dX7_dotsOf_1 : decode cX7_dotsOf 1 = .ok (.istore_n 3, 1) := by decide +kernel
theorem dX7_dotsOf_2 : decode cX7_dotsOf 2 = .ok (.iconst 0, 1) := by decide +kernel
theorem dX7_dotsOf_3 : decode cX7_dotsOf 3 = .ok (.istore 4, 2) := by decide +kernel
theorem dX7_dotsOf_5 : decode cX7_dotsOf 5 = .ok (.iload 4, 2) := by decide +kernel
theorem dX7_dotsOf_7 : decode cX7_dotsOf 7 = .ok (.aload_n 0, 1) := by decide +kernel
theorem dX7_dotsOf_8 : decode cX7_dotsOf 8 = .ok (.invokevirtual 80, 3) := by decide +kernel
theorem dX7_dotsOf_11 : decode cX7_dotsOf 11 = .ok (.if_icmp .ge 25, 3) := by decide +kernel
theorem dX7_dotsOf_14 : decode cX7_dotsOf 14 = .ok (.iload_n 3, 1) := by decide +kernel
theorem dX7_dotsOf_15 : decode cX7_dotsOf 15 = .ok (.aload_n 1, 1) := by decide +kernel
theorem dX7_dotsOf_16 : decode cX7_dotsOf 16 = .ok (.iload 4, 2) := by decide +kernel
theorem dX7_dotsOf_18 : decode cX7_dotsOf 18 = .ok (.iaload, 1) := by decide +kernel
theorem dX7_dotsOf_19 : decode cX7_dotsOf 19 = .ok (.iload_n 2, 1) := by decide +kernel
theorem dX7_dotsOf_20 : decode cX7_dotsOf 20 = .ok (.if_icmp .ne 7, 3) := by decide +kernel
theorem dX7_dotsOf_23 : decode cX7_dotsOf 23 = .ok (.iconst 1, 1) := by decide +kernel
theorem dX7_dotsOf_24 : decode cX7_dotsOf 24 = .ok (.goto 4, 3) := by decide +kernel
theorem dX7_dotsOf_27 : decode cX7_dotsOf 27 = .ok (.iconst 0, 1) := by decide +kernel
theorem dX7_dotsOf_28 : decode cX7_dotsOf 28 = .ok (.iadd, 1) := by decide +kernel
theorem dX7_dotsOf_29 : decode cX7_dotsOf 29 = .ok (.istore_n 3, 1) := by decide +kernel
theorem dX7_dotsOf_30 : decode cX7_dotsOf 30 = .ok (.iinc 4 1, 3) := by decide +kernel
theorem dX7_dotsOf_33 : decode cX7_dotsOf 33 = .ok (.goto (-28), 3) := by decide +kernel
theorem dX7_dotsOf_36 : decode cX7_dotsOf 36 = .ok (.iload_n 3, 1) := by decide +kernel
theorem dX7_dotsOf_37 : decode cX7_dotsOf 37 = .ok (.ireturn, 1) := by decide +kernel
theorem dX7_hasBeside_0 : decode cX7_hasBeside 0 = .ok (.iconst 0, 1) := by decide +kernel
theorem dX7_hasBeside_1 : decode cX7_hasBeside 1 = .ok (.istore_n 3, 1) := by decide +kernel
theorem dX7_hasBeside_2 : decode cX7_hasBeside 2 = .ok (.iconst 0, 1) := by decide +kernel
theorem dX7_hasBeside_3 : decode cX7_hasBeside 3 = .ok (.istore 4, 2) := by decide +kernel
theorem dX7_hasBeside_5 : decode cX7_hasBeside 5 = .ok (.iload 4, 2) := by decide +kernel
theorem dX7_hasBeside_7 : decode cX7_hasBeside 7 = .ok (.iconst 4, 1) := by decide +kernel
theorem dX7_hasBeside_8 : decode cX7_hasBeside 8 = .ok (.if_icmp .ge 44, 3) := by decide +kernel
theorem dX7_hasBeside_11 : decode cX7_hasBeside 11 = .ok (.aload_n 0, 1) := by decide +kernel
theorem dX7_hasBeside_12 : decode cX7_hasBeside 12 = .ok (.iload_n 1, 1) := by decide +kernel
theorem dX7_hasBeside_13 : decode cX7_hasBeside 13 = .ok (.iload 4, 2) := by decide +kernel
theorem dX7_hasBeside_15 : decode cX7_hasBeside 15 = .ok (.invokevirtual 77, 3) := by decide +kernel
theorem dX7_hasBeside_18 : decode cX7_hasBeside 18 = .ok (.istore 5, 2) := by decide +kernel
theorem dX7_hasBeside_20 : decode cX7_hasBeside 20 = .ok (.iload_n 3, 1) := by decide +kernel
theorem dX7_hasBeside_21 : decode cX7_hasBeside 21 = .ok (.ifCond .ne 19, 3) := by decide +kernel
theorem dX7_hasBeside_24 : decode cX7_hasBeside 24 = .ok (.iload 5, 2) := by decide +kernel
theorem dX7_hasBeside_26 : decode cX7_hasBeside 26 = .ok (.ifCond .lt 18, 3) := by decide +kernel
theorem dX7_hasBeside_29 : decode cX7_hasBeside 29 = .ok (.aload_n 0, 1) := by decide +kernel
theorem dX7_hasBeside_30 : decode cX7_hasBeside 30 = .ok (.getfield 44, 3) := by decide +kernel
theorem dX7_hasBeside_33 : decode cX7_hasBeside 33 = .ok (.iload 5, 2) := by decide +kernel
theorem dX7_hasBeside_35 : decode cX7_hasBeside 35 = .ok (.iaload, 1) := by decide +kernel
theorem dX7_hasBeside_36 : decode cX7_hasBeside 36 = .ok (.iload_n 2, 1) := by decide +kernel
theorem dX7_hasBeside_37 : decode cX7_hasBeside 37 = .ok (.if_icmp .ne 7, 3) := by decide +kernel
theorem dX7_hasBeside_40 : decode cX7_hasBeside 40 = .ok (.iconst 1, 1) := by decide +kernel
theorem dX7_hasBeside_41 : decode cX7_hasBeside 41 = .ok (.goto 4, 3) := by decide +kernel
theorem dX7_hasBeside_44 : decode cX7_hasBeside 44 = .ok (.iconst 0, 1) := by decide +kernel
theorem dX7_hasBeside_45 : decode cX7_hasBeside 45 = .ok (.istore_n 3, 1) := by decide +kernel
theorem dX7_hasBeside_46 : decode cX7_hasBeside 46 = .ok (.iinc 4 1, 3) := by decide +kernel
theorem dX7_hasBeside_49 : decode cX7_hasBeside 49 = .ok (.goto (-44), 3) := by decide +kernel
theorem dX7_hasBeside_52 : decode cX7_hasBeside 52 = .ok (.iload_n 3, 1) := by decide +kernel
theorem dX7_hasBeside_53 : decode cX7_hasBeside 53 = .ok (.ireturn, 1) := by decide +kernel
theorem dX7_lesser_0 : decode cX7_lesser 0 = .ok (.iload_n 0, 1) := by decide +kernel
theorem dX7_lesser_1 : decode cX7_lesser 1 = .ok (.ifCond .lt 12, 3) := by decide +kernel
theorem dX7_lesser_4 : decode cX7_lesser 4 = .ok (.iload_n 1, 1) := by decide +kernel
theorem dX7_lesser_5 : decode cX7_lesser 5 = .ok (.ifCond .lt 12, 3) := by decide +kernel
theorem dX7_lesser_8 : decode cX7_lesser 8 = .ok (.iload_n 1, 1) := by decide +kernel
theorem dX7_lesser_9 : decode cX7_lesser 9 = .ok (.iload_n 0, 1) := by decide +kernel
theorem dX7_lesser_10 : decode cX7_lesser 10 = .ok (.if_icmp .ge 7, 3) := by decide +kernel
theorem dX7_lesser_13 : decode cX7_lesser 13 = .ok (.iload_n 1, 1) := by decide +kernel
theorem dX7_lesser_14 : decode cX7_lesser 14 = .ok (.goto 4, 3) := by decide +kernel
theorem dX7_lesser_17 : decode cX7_lesser 17 = .ok (.iload_n 0, 1) := by decide +kernel
theorem dX7_lesser_18 : decode cX7_lesser 18 = .ok (.ireturn, 1) := by decide +kernel
theorem dX7_passOf_0 : decode cX7_passOf 0 = .ok (.bipush (-6), 2) := by decide +kernel
theorem dX7_passOf_2 : decode cX7_passOf 2 = .ok (.istore_n 3, 1) := by decide +kernel
theorem dX7_passOf_3 : decode cX7_passOf 3 = .ok (.iconst 0, 1) := by decide +kernel
theorem dX7_passOf_4 : decode cX7_passOf 4 = .ok (.istore 4, 2) := by decide +kernel
theorem dX7_passOf_6 : decode cX7_passOf 6 = .ok (.iload 4, 2) := by decide +kernel
theorem dX7_passOf_8 : decode cX7_passOf 8 = .ok (.aload_n 0, 1) := by decide +kernel
theorem dX7_passOf_9 : decode cX7_passOf 9 = .ok (.invokevirtual 80, 3) := by decide +kernel
theorem dX7_passOf_12 : decode cX7_passOf 12 = .ok (.if_icmp .ge 125, 3) := by decide +kernel
theorem dX7_passOf_15 : decode cX7_passOf 15 = .ok (.aload_n 0, 1) := by decide +kernel
theorem dX7_passOf_16 : decode cX7_passOf 16 = .ok (.getfield 44, 3) := by decide +kernel
theorem dX7_passOf_19 : decode cX7_passOf 19 = .ok (.iload 4, 2) := by decide +kernel
theorem dX7_passOf_21 : decode cX7_passOf 21 = .ok (.iaload, 1) := by decide +kernel
theorem dX7_passOf_22 : decode cX7_passOf 22 = .ok (.ifCond .ne 35, 3) := by decide +kernel
theorem dX7_passOf_25 : decode cX7_passOf 25 = .ok (.aload_n 0, 1) := by decide +kernel
theorem dX7_passOf_26 : decode cX7_passOf 26 = .ok (.iload 4, 2) := by decide +kernel
theorem dX7_passOf_28 : decode cX7_passOf 28 = .ok (.iload_n 1, 1) := by decide +kernel
theorem dX7_passOf_29 : decode cX7_passOf 29 = .ok (.invokevirtual 116, 3) := by decide +kernel
theorem dX7_passOf_32 : decode cX7_passOf 32 = .ok (.ifCond .eq 25, 3) := by decide +kernel
theorem dX7_passOf_35 : decode cX7_passOf 35 = .ok (.aload_n 0, 1) := by decide +kernel
theorem dX7_passOf_36 : decode cX7_passOf 36 = .ok (.iload 4, 2) := by decide +kernel
theorem dX7_passOf_38 : decode cX7_passOf 38 = .ok (.iload_n 2, 1) := by decide +kernel
theorem dX7_passOf_39 : decode cX7_passOf 39 = .ok (.invokevirtual 116, 3) := by decide +kernel
theorem dX7_passOf_42 : decode cX7_passOf 42 = .ok (.ifCond .eq 15, 3) := by decide +kernel
theorem dX7_passOf_45 : decode cX7_passOf 45 = .ok (.iload_n 3, 1) := by decide +kernel
theorem dX7_passOf_46 : decode cX7_passOf 46 = .ok (.aload_n 0, 1) := by decide +kernel
theorem dX7_passOf_47 : decode cX7_passOf 47 = .ok (.getfield 7, 3) := by decide +kernel
theorem dX7_passOf_50 : decode cX7_passOf 50 = .ok (.iload 4, 2) := by decide +kernel
theorem dX7_passOf_52 : decode cX7_passOf 52 = .ok (.iaload, 1) := by decide +kernel
theorem dX7_passOf_53 : decode cX7_passOf 53 = .ok (.invokestatic 119, 3) := by decide +kernel
theorem dX7_passOf_56 : decode cX7_passOf 56 = .ok (.istore_n 3, 1) := by decide +kernel
theorem dX7_passOf_57 : decode cX7_passOf 57 = .ok (.iconst 0, 1) := by decide +kernel
theorem dX7_passOf_58 : decode cX7_passOf 58 = .ok (.istore 5, 2) := by decide +kernel
theorem dX7_passOf_60 : decode cX7_passOf 60 = .ok (.iload 5, 2) := by decide +kernel
theorem dX7_passOf_62 : decode cX7_passOf 62 = .ok (.iconst 4, 1) := by decide +kernel
theorem dX7_passOf_63 : decode cX7_passOf 63 = .ok (.if_icmp .ge 68, 3) := by decide +kernel
theorem dX7_passOf_66 : decode cX7_passOf 66 = .ok (.aload_n 0, 1) := by decide +kernel
theorem dX7_passOf_67 : decode cX7_passOf 67 = .ok (.getfield 44, 3) := by decide +kernel
theorem dX7_passOf_70 : decode cX7_passOf 70 = .ok (.iload 4, 2) := by decide +kernel
theorem dX7_passOf_72 : decode cX7_passOf 72 = .ok (.iaload, 1) := by decide +kernel
theorem dX7_passOf_73 : decode cX7_passOf 73 = .ok (.iload_n 1, 1) := by decide +kernel
theorem dX7_passOf_74 : decode cX7_passOf 74 = .ok (.if_icmp .ne 57, 3) := by decide +kernel
theorem dX7_passOf_77 : decode cX7_passOf 77 = .ok (.aload_n 0, 1) := by decide +kernel
theorem dX7_passOf_78 : decode cX7_passOf 78 = .ok (.iload 4, 2) := by decide +kernel
theorem dX7_passOf_80 : decode cX7_passOf 80 = .ok (.iload 5, 2) := by decide +kernel
theorem dX7_passOf_82 : decode cX7_passOf 82 = .ok (.invokevirtual 77, 3) := by decide +kernel
theorem dX7_passOf_85 : decode cX7_passOf 85 = .ok (.istore 6, 2) := by decide +kernel
theorem dX7_passOf_87 : decode cX7_passOf 87 = .ok (.iload 6, 2) := by decide +kernel
theorem dX7_passOf_89 : decode cX7_passOf 89 = .ok (.ifCond .lt 36, 3) := by decide +kernel
theorem dX7_passOf_92 : decode cX7_passOf 92 = .ok (.aload_n 0, 1) := by decide +kernel
theorem dX7_passOf_93 : decode cX7_passOf 93 = .ok (.getfield 44, 3) := by decide +kernel
theorem dX7_passOf_96 : decode cX7_passOf 96 = .ok (.iload 6, 2) := by decide +kernel
theorem dX7_passOf_98 : decode cX7_passOf 98 = .ok (.iaload, 1) := by decide +kernel
theorem dX7_passOf_99 : decode cX7_passOf 99 = .ok (.iload_n 2, 1) := by decide +kernel
theorem dX7_passOf_100 : decode cX7_passOf 100 = .ok (.if_icmp .ne 25, 3) := by decide +kernel
theorem dX7_passOf_103 : decode cX7_passOf 103 = .ok (.iload_n 3, 1) := by decide +kernel
theorem dX7_passOf_104 : decode cX7_passOf 104 = .ok (.aload_n 0, 1) := by decide +kernel
theorem dX7_passOf_105 : decode cX7_passOf 105 = .ok (.getfield 7, 3) := by decide +kernel
theorem dX7_passOf_108 : decode cX7_passOf 108 = .ok (.iload 4, 2) := by decide +kernel
theorem dX7_passOf_110 : decode cX7_passOf 110 = .ok (.iaload, 1) := by decide +kernel
theorem dX7_passOf_111 : decode cX7_passOf 111 = .ok (.aload_n 0, 1) := by decide +kernel
theorem dX7_passOf_112 : decode cX7_passOf 112 = .ok (.getfield 7, 3) := by decide +kernel
theorem dX7_passOf_115 : decode cX7_passOf 115 = .ok (.iload 6, 2) := by decide +kernel
theorem dX7_passOf_117 : decode cX7_passOf 117 = .ok (.iaload, 1) := by decide +kernel
theorem dX7_passOf_118 : decode cX7_passOf 118 = .ok (.invokestatic 98, 3) := by decide +kernel
theorem dX7_passOf_121 : decode cX7_passOf 121 = .ok (.invokestatic 119, 3) := by decide +kernel
theorem dX7_passOf_124 : decode cX7_passOf 124 = .ok (.istore_n 3, 1) := by decide +kernel
theorem dX7_passOf_125 : decode cX7_passOf 125 = .ok (.iinc 5 1, 3) := by decide +kernel
theorem dX7_passOf_128 : decode cX7_passOf 128 = .ok (.goto (-68), 3) := by decide +kernel
theorem dX7_passOf_131 : decode cX7_passOf 131 = .ok (.iinc 4 1, 3) := by decide +kernel
theorem dX7_passOf_134 : decode cX7_passOf 134 = .ok (.goto (-128), 3) := by decide +kernel
theorem dX7_passOf_137 : decode cX7_passOf 137 = .ok (.iload_n 3, 1) := by decide +kernel
theorem dX7_passOf_138 : decode cX7_passOf 138 = .ok (.ireturn, 1) := by decide +kernel
theorem dX7_layPasses_0 : decode cX7_layPasses 0 = .ok (.iconst 1, 1) := by decide +kernel
theorem dX7_layPasses_1 : decode cX7_layPasses 1 = .ok (.istore_n 2, 1) := by decide +kernel
theorem dX7_layPasses_2 : decode cX7_layPasses 2 = .ok (.iload_n 2, 1) := by decide +kernel
theorem dX7_layPasses_3 : decode cX7_layPasses 3 = .ok (.bipush 100, 2) := by decide +kernel
theorem dX7_layPasses_5 : decode cX7_layPasses 5 = .ok (.if_icmp .ge 17, 3) := by decide +kernel
theorem dX7_layPasses_8 : decode cX7_layPasses 8 = .ok (.aload_n 0, 1) := by decide +kernel
theorem dX7_layPasses_9 : decode cX7_layPasses 9 = .ok (.getfield 59, 3) := by decide +kernel
theorem dX7_layPasses_12 : decode cX7_layPasses 12 = .ok (.iload_n 2, 1) := by decide +kernel
theorem dX7_layPasses_13 : decode cX7_layPasses 13 = .ok (.bipush (-6), 2) := by decide +kernel
theorem dX7_layPasses_15 : decode cX7_layPasses 15 = .ok (.iastore, 1) := by decide +kernel
theorem dX7_layPasses_16 : decode cX7_layPasses 16 = .ok (.iinc 2 1, 3) := by decide +kernel
theorem dX7_layPasses_19 : decode cX7_layPasses 19 = .ok (.goto (-17), 3) := by decide +kernel
theorem dX7_layPasses_22 : decode cX7_layPasses 22 = .ok (.iconst 0, 1) := by decide +kernel
theorem dX7_layPasses_23 : decode cX7_layPasses 23 = .ok (.istore_n 2, 1) := by decide +kernel
theorem dX7_layPasses_24 : decode cX7_layPasses 24 = .ok (.iload_n 2, 1) := by decide +kernel
theorem dX7_layPasses_25 : decode cX7_layPasses 25 = .ok (.aload_n 0, 1) := by decide +kernel
theorem dX7_layPasses_26 : decode cX7_layPasses 26 = .ok (.invokevirtual 80, 3) := by decide +kernel
theorem dX7_layPasses_29 : decode cX7_layPasses 29 = .ok (.if_icmp .ge 153, 3) := by decide +kernel
theorem dX7_layPasses_32 : decode cX7_layPasses 32 = .ok (.aload_n 0, 1) := by decide +kernel
theorem dX7_layPasses_33 : decode cX7_layPasses 33 = .ok (.getfield 44, 3) := by decide +kernel
theorem dX7_layPasses_36 : decode cX7_layPasses 36 = .ok (.iload_n 2, 1) := by decide +kernel
theorem dX7_layPasses_37 : decode cX7_layPasses 37 = .ok (.iaload, 1) := by decide +kernel
theorem dX7_layPasses_38 : decode cX7_layPasses 38 = .ok (.ifCond .ne 16, 3) := by decide +kernel
theorem dX7_layPasses_41 : decode cX7_layPasses 41 = .ok (.aload_n 0, 1) := by decide +kernel
theorem dX7_layPasses_42 : decode cX7_layPasses 42 = .ok (.iload_n 2, 1) := by decide +kernel
theorem dX7_layPasses_43 : decode cX7_layPasses 43 = .ok (.iload_n 1, 1) := by decide +kernel
theorem dX7_layPasses_44 : decode cX7_layPasses 44 = .ok (.invokevirtual 116, 3) := by decide +kernel
theorem dX7_layPasses_47 : decode cX7_layPasses 47 = .ok (.ifCond .eq 7, 3) := by decide +kernel
theorem dX7_layPasses_50 : decode cX7_layPasses 50 = .ok (.iconst 1, 1) := by decide +kernel
theorem dX7_layPasses_51 : decode cX7_layPasses 51 = .ok (.goto 4, 3) := by decide +kernel
theorem dX7_layPasses_54 : decode cX7_layPasses 54 = .ok (.iconst 0, 1) := by decide +kernel
theorem dX7_layPasses_55 : decode cX7_layPasses 55 = .ok (.istore_n 3, 1) := by decide +kernel
theorem dX7_layPasses_56 : decode cX7_layPasses 56 = .ok (.iconst 0, 1) := by decide +kernel
theorem dX7_layPasses_57 : decode cX7_layPasses 57 = .ok (.istore 4, 2) := by decide +kernel
theorem dX7_layPasses_59 : decode cX7_layPasses 59 = .ok (.iload 4, 2) := by decide +kernel
theorem dX7_layPasses_61 : decode cX7_layPasses 61 = .ok (.iconst 4, 1) := by decide +kernel
theorem dX7_layPasses_62 : decode cX7_layPasses 62 = .ok (.if_icmp .ge 114, 3) := by decide +kernel
theorem dX7_layPasses_65 : decode cX7_layPasses 65 = .ok (.iload_n 3, 1) := by decide +kernel
theorem dX7_layPasses_66 : decode cX7_layPasses 66 = .ok (.ifCond .ne 13, 3) := by decide +kernel
theorem dX7_layPasses_69 : decode cX7_layPasses 69 = .ok (.aload_n 0, 1) := by decide +kernel
theorem dX7_layPasses_70 : decode cX7_layPasses 70 = .ok (.getfield 44, 3) := by decide +kernel
theorem dX7_layPasses_73 : decode cX7_layPasses 73 = .ok (.iload_n 2, 1) := by decide +kernel
theorem dX7_layPasses_74 : decode cX7_layPasses 74 = .ok (.iaload, 1) := by decide +kernel
theorem dX7_layPasses_75 : decode cX7_layPasses 75 = .ok (.iload_n 1, 1) := by decide +kernel
theorem dX7_layPasses_76 : decode cX7_layPasses 76 = .ok (.if_icmp .ne 100, 3) := by decide +kernel
theorem dX7_layPasses_79 : decode cX7_layPasses 79 = .ok (.aload_n 0, 1) := by decide +kernel
theorem dX7_layPasses_80 : decode cX7_layPasses 80 = .ok (.iload_n 2, 1) := by decide +kernel
theorem dX7_layPasses_81 : decode cX7_layPasses 81 = .ok (.iload 4, 2) := by decide +kernel
theorem dX7_layPasses_83 : decode cX7_layPasses 83 = .ok (.invokevirtual 77, 3) := by decide +kernel
theorem dX7_layPasses_86 : decode cX7_layPasses 86 = .ok (.istore 5, 2) := by decide +kernel
theorem dX7_layPasses_88 : decode cX7_layPasses 88 = .ok (.iload 5, 2) := by decide +kernel
theorem dX7_layPasses_90 : decode cX7_layPasses 90 = .ok (.ifCond .lt 80, 3) := by decide +kernel
theorem dX7_layPasses_93 : decode cX7_layPasses 93 = .ok (.aload_n 0, 1) := by decide +kernel
theorem dX7_layPasses_94 : decode cX7_layPasses 94 = .ok (.getfield 44, 3) := by decide +kernel
theorem dX7_layPasses_97 : decode cX7_layPasses 97 = .ok (.iload 5, 2) := by decide +kernel
theorem dX7_layPasses_99 : decode cX7_layPasses 99 = .ok (.iaload, 1) := by decide +kernel
theorem dX7_layPasses_100 : decode cX7_layPasses 100 = .ok (.ifCond .le 70, 3) := by decide +kernel
theorem dX7_layPasses_103 : decode cX7_layPasses 103 = .ok (.aload_n 0, 1) := by decide +kernel
theorem dX7_layPasses_104 : decode cX7_layPasses 104 = .ok (.getfield 44, 3) := by decide +kernel
theorem dX7_layPasses_107 : decode cX7_layPasses 107 = .ok (.iload 5, 2) := by decide +kernel
theorem dX7_layPasses_109 : decode cX7_layPasses 109 = .ok (.iaload, 1) := by decide +kernel
theorem dX7_layPasses_110 : decode cX7_layPasses 110 = .ok (.iload_n 1, 1) := by decide +kernel
theorem dX7_layPasses_111 : decode cX7_layPasses 111 = .ok (.if_icmp .eq 59, 3) := by decide +kernel
theorem dX7_layPasses_114 : decode cX7_layPasses 114 = .ok (.aload_n 0, 1) := by decide +kernel
theorem dX7_layPasses_115 : decode cX7_layPasses 115 = .ok (.getfield 59, 3) := by decide +kernel
theorem dX7_layPasses_118 : decode cX7_layPasses 118 = .ok (.aload_n 0, 1) := by decide +kernel
theorem dX7_layPasses_119 : decode cX7_layPasses 119 = .ok (.getfield 44, 3) := by decide +kernel
theorem dX7_layPasses_122 : decode cX7_layPasses 122 = .ok (.iload 5, 2) := by decide +kernel
theorem dX7_layPasses_124 : decode cX7_layPasses 124 = .ok (.iaload, 1) := by decide +kernel
theorem dX7_layPasses_125 : decode cX7_layPasses 125 = .ok (.aload_n 0, 1) := by decide +kernel
theorem dX7_layPasses_126 : decode cX7_layPasses 126 = .ok (.getfield 59, 3) := by decide +kernel
theorem dX7_layPasses_129 : decode cX7_layPasses 129 = .ok (.aload_n 0, 1) := by decide +kernel
theorem dX7_layPasses_130 : decode cX7_layPasses 130 = .ok (.getfield 44, 3) := by decide +kernel
theorem dX7_layPasses_133 : decode cX7_layPasses 133 = .ok (.iload 5, 2) := by decide +kernel
theorem dX7_layPasses_135 : decode cX7_layPasses 135 = .ok (.iaload, 1) := by decide +kernel
theorem dX7_layPasses_136 : decode cX7_layPasses 136 = .ok (.iaload, 1) := by decide +kernel
theorem dX7_layPasses_137 : decode cX7_layPasses 137 = .ok (.iload_n 3, 1) := by decide +kernel
theorem dX7_layPasses_138 : decode cX7_layPasses 138 = .ok (.ifCond .eq 12, 3) := by decide +kernel
theorem dX7_layPasses_141 : decode cX7_layPasses 141 = .ok (.aload_n 0, 1) := by decide +kernel
theorem dX7_layPasses_142 : decode cX7_layPasses 142 = .ok (.getfield 7, 3) := by decide +kernel
theorem dX7_layPasses_145 : decode cX7_layPasses 145 = .ok (.iload_n 2, 1) := by decide +kernel
theorem dX7_layPasses_146 : decode cX7_layPasses 146 = .ok (.iaload, 1) := by decide +kernel
theorem dX7_layPasses_147 : decode cX7_layPasses 147 = .ok (.goto 19, 3) := by decide +kernel
theorem dX7_layPasses_150 : decode cX7_layPasses 150 = .ok (.aload_n 0, 1) := by decide +kernel
theorem dX7_layPasses_151 : decode cX7_layPasses 151 = .ok (.getfield 7, 3) := by decide +kernel
theorem dX7_layPasses_154 : decode cX7_layPasses 154 = .ok (.iload_n 2, 1) := by decide +kernel
theorem dX7_layPasses_155 : decode cX7_layPasses 155 = .ok (.iaload, 1) := by decide +kernel
theorem dX7_layPasses_156 : decode cX7_layPasses 156 = .ok (.aload_n 0, 1) := by decide +kernel
theorem dX7_layPasses_157 : decode cX7_layPasses 157 = .ok (.getfield 7, 3) := by decide +kernel
theorem dX7_layPasses_160 : decode cX7_layPasses 160 = .ok (.iload 5, 2) := by decide +kernel
theorem dX7_layPasses_162 : decode cX7_layPasses 162 = .ok (.iaload, 1) := by decide +kernel
theorem dX7_layPasses_163 : decode cX7_layPasses 163 = .ok (.invokestatic 98, 3) := by decide +kernel
theorem dX7_layPasses_166 : decode cX7_layPasses 166 = .ok (.invokestatic 119, 3) := by decide +kernel
theorem dX7_layPasses_169 : decode cX7_layPasses 169 = .ok (.iastore, 1) := by decide +kernel
theorem dX7_layPasses_170 : decode cX7_layPasses 170 = .ok (.iinc 4 1, 3) := by decide +kernel
theorem dX7_layPasses_173 : decode cX7_layPasses 173 = .ok (.goto (-114), 3) := by decide +kernel
theorem dX7_layPasses_176 : decode cX7_layPasses 176 = .ok (.iinc 2 1, 3) := by decide +kernel
theorem dX7_layPasses_179 : decode cX7_layPasses 179 = .ok (.goto (-155), 3) := by decide +kernel
theorem dX7_layPasses_182 : decode cX7_layPasses 182 = .ok (.return_, 1) := by decide +kernel
theorem dX7_wayOut_0 : decode cX7_wayOut 0 = .ok (.aload_n 0, 1) := by decide +kernel
theorem dX7_wayOut_1 : decode cX7_wayOut 1 = .ok (.iload_n 1, 1) := by decide +kernel
theorem dX7_wayOut_2 : decode cX7_wayOut 2 = .ok (.invokevirtual 122, 3) := by decide +kernel
theorem dX7_wayOut_5 : decode cX7_wayOut 5 = .ok (.bipush (-6), 2) := by decide +kernel
theorem dX7_wayOut_7 : decode cX7_wayOut 7 = .ok (.istore_n 2, 1) := by decide +kernel
theorem dX7_wayOut_8 : decode cX7_wayOut 8 = .ok (.iconst 1, 1) := by decide +kernel
theorem dX7_wayOut_9 : decode cX7_wayOut 9 = .ok (.istore_n 3, 1) := by decide +kernel
theorem dX7_wayOut_10 : decode cX7_wayOut 10 = .ok (.iload_n 3, 1) := by decide +kernel
theorem dX7_wayOut_11 : decode cX7_wayOut 11 = .ok (.bipush 100, 2) := by decide +kernel
theorem dX7_wayOut_13 : decode cX7_wayOut 13 = .ok (.if_icmp .ge 43, 3) := by decide +kernel
theorem dX7_wayOut_16 : decode cX7_wayOut 16 = .ok (.aload_n 0, 1) := by decide +kernel
theorem dX7_wayOut_17 : decode cX7_wayOut 17 = .ok (.getfield 59, 3) := by decide +kernel
theorem dX7_wayOut_20 : decode cX7_wayOut 20 = .ok (.iload_n 3, 1) := by decide +kernel
theorem dX7_wayOut_21 : decode cX7_wayOut 21 = .ok (.iaload, 1) := by decide +kernel
theorem dX7_wayOut_22 : decode cX7_wayOut 22 = .ok (.ifCond .lt 26, 3) := by decide +kernel
theorem dX7_wayOut_25 : decode cX7_wayOut 25 = .ok (.iload_n 2, 1) := by decide +kernel
theorem dX7_wayOut_26 : decode cX7_wayOut 26 = .ok (.ifCond .lt 18, 3) := by decide +kernel
theorem dX7_wayOut_29 : decode cX7_wayOut 29 = .ok (.aload_n 0, 1) := by decide +kernel
theorem dX7_wayOut_30 : decode cX7_wayOut 30 = .ok (.getfield 59, 3) := by decide +kernel
theorem dX7_wayOut_33 : decode cX7_wayOut 33 = .ok (.iload_n 3, 1) := by decide +kernel
theorem dX7_wayOut_34 : decode cX7_wayOut 34 = .ok (.iaload, 1) := by decide +kernel
theorem dX7_wayOut_35 : decode cX7_wayOut 35 = .ok (.aload_n 0, 1) := by decide +kernel
theorem dX7_wayOut_36 : decode cX7_wayOut 36 = .ok (.getfield 59, 3) := by decide +kernel
theorem dX7_wayOut_39 : decode cX7_wayOut 39 = .ok (.iload_n 2, 1) := by decide +kernel
theorem dX7_wayOut_40 : decode cX7_wayOut 40 = .ok (.iaload, 1) := by decide +kernel
theorem dX7_wayOut_41 : decode cX7_wayOut 41 = .ok (.if_icmp .ge 7, 3) := by decide +kernel
theorem dX7_wayOut_44 : decode cX7_wayOut 44 = .ok (.iload_n 3, 1) := by decide +kernel
theorem dX7_wayOut_45 : decode cX7_wayOut 45 = .ok (.goto 4, 3) := by decide +kernel
theorem dX7_wayOut_48 : decode cX7_wayOut 48 = .ok (.iload_n 2, 1) := by decide +kernel
theorem dX7_wayOut_49 : decode cX7_wayOut 49 = .ok (.istore_n 2, 1) := by decide +kernel
theorem dX7_wayOut_50 : decode cX7_wayOut 50 = .ok (.iinc 3 1, 3) := by decide +kernel
theorem dX7_wayOut_53 : decode cX7_wayOut 53 = .ok (.goto (-43), 3) := by decide +kernel
theorem dX7_wayOut_56 : decode cX7_wayOut 56 = .ok (.iload_n 2, 1) := by decide +kernel
theorem dX7_wayOut_57 : decode cX7_wayOut 57 = .ok (.ireturn, 1) := by decide +kernel
theorem dX7_leastHeight_0 : decode cX7_leastHeight 0 = .ok (.bipush (-6), 2) := by decide +kernel
theorem dX7_leastHeight_2 : decode cX7_leastHeight 2 = .ok (.istore_n 2, 1) := by decide +kernel
theorem dX7_leastHeight_3 : decode cX7_leastHeight 3 = .ok (.iconst 0, 1) := by decide +kernel
theorem dX7_leastHeight_4 : decode cX7_leastHeight 4 = .ok (.istore_n 3, 1) := by decide +kernel
theorem dX7_leastHeight_5 : decode cX7_leastHeight 5 = .ok (.iload_n 3, 1) := by decide +kernel
theorem dX7_leastHeight_6 : decode cX7_leastHeight 6 = .ok (.aload_n 0, 1) := by decide +kernel
theorem dX7_leastHeight_7 : decode cX7_leastHeight 7 = .ok (.invokevirtual 80, 3) := by decide +kernel
theorem dX7_leastHeight_10 : decode cX7_leastHeight 10 = .ok (.if_icmp .ge 34, 3) := by decide +kernel
theorem dX7_leastHeight_13 : decode cX7_leastHeight 13 = .ok (.aload_n 0, 1) := by decide +kernel
theorem dX7_leastHeight_14 : decode cX7_leastHeight 14 = .ok (.getfield 44, 3) := by decide +kernel
theorem dX7_leastHeight_17 : decode cX7_leastHeight 17 = .ok (.iload_n 3, 1) := by decide +kernel
theorem dX7_leastHeight_18 : decode cX7_leastHeight 18 = .ok (.iaload, 1) := by decide +kernel
theorem dX7_leastHeight_19 : decode cX7_leastHeight 19 = .ok (.iload_n 1, 1) := by decide +kernel
theorem dX7_leastHeight_20 : decode cX7_leastHeight 20 = .ok (.if_icmp .ne 16, 3) := by decide +kernel
theorem dX7_leastHeight_23 : decode cX7_leastHeight 23 = .ok (.iload_n 2, 1) := by decide +kernel
theorem dX7_leastHeight_24 : decode cX7_leastHeight 24 = .ok (.aload_n 0, 1) := by decide +kernel
theorem dX7_leastHeight_25 : decode cX7_leastHeight 25 = .ok (.getfield 7, 3) := by decide +kernel
theorem dX7_leastHeight_28 : decode cX7_leastHeight 28 = .ok (.iload_n 3, 1) := by decide +kernel
theorem dX7_leastHeight_29 : decode cX7_leastHeight 29 = .ok (.iaload, 1) := by decide +kernel
theorem dX7_leastHeight_30 : decode cX7_leastHeight 30 = .ok (.invokestatic 119, 3) := by decide +kernel
theorem dX7_leastHeight_33 : decode cX7_leastHeight 33 = .ok (.goto 4, 3) := by decide +kernel
theorem dX7_leastHeight_36 : decode cX7_leastHeight 36 = .ok (.iload_n 2, 1) := by decide +kernel
theorem dX7_leastHeight_37 : decode cX7_leastHeight 37 = .ok (.istore_n 2, 1) := by decide +kernel
theorem dX7_leastHeight_38 : decode cX7_leastHeight 38 = .ok (.iinc 3 1, 3) := by decide +kernel
theorem dX7_leastHeight_41 : decode cX7_leastHeight 41 = .ok (.goto (-36), 3) := by decide +kernel
theorem dX7_leastHeight_44 : decode cX7_leastHeight 44 = .ok (.iload_n 2, 1) := by decide +kernel
theorem dX7_leastHeight_45 : decode cX7_leastHeight 45 = .ok (.ireturn, 1) := by decide +kernel
theorem dX7_sizeOf_0 : decode cX7_sizeOf 0 = .ok (.iload_n 2, 1) := by decide +kernel
theorem dX7_sizeOf_1 : decode cX7_sizeOf 1 = .ok (.ifCond .ne 13, 3) := by decide +kernel
theorem dX7_sizeOf_4 : decode cX7_sizeOf 4 = .ok (.aload_n 0, 1) := by decide +kernel
theorem dX7_sizeOf_5 : decode cX7_sizeOf 5 = .ok (.aload_n 0, 1) := by decide +kernel
theorem dX7_sizeOf_6 : decode cX7_sizeOf 6 = .ok (.getfield 44, 3) := by decide +kernel
theorem dX7_sizeOf_9 : decode cX7_sizeOf 9 = .ok (.iload_n 1, 1) := by decide +kernel
theorem dX7_sizeOf_10 : decode cX7_sizeOf 10 = .ok (.invokevirtual 125, 3) := by decide +kernel
theorem dX7_sizeOf_13 : decode cX7_sizeOf 13 = .ok (.ireturn, 1) := by decide +kernel
theorem dX7_sizeOf_14 : decode cX7_sizeOf 14 = .ok (.iload_n 3, 1) := by decide +kernel
theorem dX7_sizeOf_15 : decode cX7_sizeOf 15 = .ok (.ifCond .ge 5, 3) := by decide +kernel
theorem dX7_sizeOf_18 : decode cX7_sizeOf 18 = .ok (.iconst 0, 1) := by decide +kernel
theorem dX7_sizeOf_19 : decode cX7_sizeOf 19 = .ok (.ireturn, 1) := by decide +kernel
theorem dX7_sizeOf_20 : decode cX7_sizeOf 20 = .ok (.iload_n 2, 1) := by decide +kernel
theorem dX7_sizeOf_21 : decode cX7_sizeOf 21 = .ok (.iconst 1, 1) := by decide +kernel
theorem dX7_sizeOf_22 : decode cX7_sizeOf 22 = .ok (.if_icmp .ne 15, 3) := by decide +kernel
theorem dX7_sizeOf_25 : decode cX7_sizeOf 25 = .ok (.iload_n 3, 1) := by decide +kernel
theorem dX7_sizeOf_26 : decode cX7_sizeOf 26 = .ok (.aload_n 0, 1) := by decide +kernel
theorem dX7_sizeOf_27 : decode cX7_sizeOf 27 = .ok (.iload_n 1, 1) := by decide +kernel
theorem dX7_sizeOf_28 : decode cX7_sizeOf 28 = .ok (.invokevirtual 128, 3) := by decide +kernel
theorem dX7_sizeOf_31 : decode cX7_sizeOf 31 = .ok (.isub, 1) := by decide +kernel
theorem dX7_sizeOf_32 : decode cX7_sizeOf 32 = .ok (.iconst 0, 1) := by decide +kernel
theorem dX7_sizeOf_33 : decode cX7_sizeOf 33 = .ok (.invokestatic 98, 3) := by decide +kernel
theorem dX7_sizeOf_36 : decode cX7_sizeOf 36 = .ok (.ireturn, 1) := by decide +kernel
theorem dX7_sizeOf_37 : decode cX7_sizeOf 37 = .ok (.iconst 0, 1) := by decide +kernel
theorem dX7_sizeOf_38 : decode cX7_sizeOf 38 = .ok (.istore 4, 2) := by decide +kernel
theorem dX7_sizeOf_40 : decode cX7_sizeOf 40 = .ok (.iconst 0, 1) := by decide +kernel
theorem dX7_sizeOf_41 : decode cX7_sizeOf 41 = .ok (.istore 5, 2) := by decide +kernel
theorem dX7_sizeOf_43 : decode cX7_sizeOf 43 = .ok (.iload 5, 2) := by decide +kernel
theorem dX7_sizeOf_45 : decode cX7_sizeOf 45 = .ok (.aload_n 0, 1) := by decide +kernel
theorem dX7_sizeOf_46 : decode cX7_sizeOf 46 = .ok (.invokevirtual 80, 3) := by decide +kernel
theorem dX7_sizeOf_49 : decode cX7_sizeOf 49 = .ok (.if_icmp .ge 42, 3) := by decide +kernel
theorem dX7_sizeOf_52 : decode cX7_sizeOf 52 = .ok (.iload 4, 2) := by decide +kernel
theorem dX7_sizeOf_54 : decode cX7_sizeOf 54 = .ok (.aload_n 0, 1) := by decide +kernel
theorem dX7_sizeOf_55 : decode cX7_sizeOf 55 = .ok (.getfield 44, 3) := by decide +kernel
theorem dX7_sizeOf_58 : decode cX7_sizeOf 58 = .ok (.iload 5, 2) := by decide +kernel
theorem dX7_sizeOf_60 : decode cX7_sizeOf 60 = .ok (.iaload, 1) := by decide +kernel
theorem dX7_sizeOf_61 : decode cX7_sizeOf 61 = .ok (.iload_n 1, 1) := by decide +kernel
theorem dX7_sizeOf_62 : decode cX7_sizeOf 62 = .ok (.if_icmp .ne 19, 3) := by decide +kernel
theorem dX7_sizeOf_65 : decode cX7_sizeOf 65 = .ok (.iload_n 3, 1) := by decide +kernel
theorem dX7_sizeOf_66 : decode cX7_sizeOf 66 = .ok (.aload_n 0, 1) := by decide +kernel
theorem dX7_sizeOf_67 : decode cX7_sizeOf 67 = .ok (.getfield 7, 3) := by decide +kernel
theorem dX7_sizeOf_70 : decode cX7_sizeOf 70 = .ok (.iload 5, 2) := by decide +kernel
theorem dX7_sizeOf_72 : decode cX7_sizeOf 72 = .ok (.iaload, 1) := by decide +kernel
theorem dX7_sizeOf_73 : decode cX7_sizeOf 73 = .ok (.isub, 1) := by decide +kernel
theorem dX7_sizeOf_74 : decode cX7_sizeOf 74 = .ok (.iconst 0, 1) := by decide +kernel
theorem dX7_sizeOf_75 : decode cX7_sizeOf 75 = .ok (.invokestatic 98, 3) := by decide +kernel
theorem dX7_sizeOf_78 : decode cX7_sizeOf 78 = .ok (.goto 4, 3) := by decide +kernel
theorem dX7_sizeOf_81 : decode cX7_sizeOf 81 = .ok (.iconst 0, 1) := by decide +kernel
theorem dX7_sizeOf_82 : decode cX7_sizeOf 82 = .ok (.iadd, 1) := by decide +kernel
theorem dX7_sizeOf_83 : decode cX7_sizeOf 83 = .ok (.istore 4, 2) := by decide +kernel
theorem dX7_sizeOf_85 : decode cX7_sizeOf 85 = .ok (.iinc 5 1, 3) := by decide +kernel
theorem dX7_sizeOf_88 : decode cX7_sizeOf 88 = .ok (.goto (-45), 3) := by decide +kernel
theorem dX7_sizeOf_91 : decode cX7_sizeOf 91 = .ok (.iload 4, 2) := by decide +kernel
theorem dX7_sizeOf_93 : decode cX7_sizeOf 93 = .ok (.ireturn, 1) := by decide +kernel
theorem dX7_pourOne_0 : decode cX7_pourOne 0 = .ok (.iconst 0, 1) := by decide +kernel
theorem dX7_pourOne_1 : decode cX7_pourOne 1 = .ok (.istore_n 3, 1) := by decide +kernel
theorem dX7_pourOne_2 : decode cX7_pourOne 2 = .ok (.iload_n 3, 1) := by decide +kernel
theorem dX7_pourOne_3 : decode cX7_pourOne 3 = .ok (.aload_n 0, 1) := by decide +kernel
theorem dX7_pourOne_4 : decode cX7_pourOne 4 = .ok (.invokevirtual 80, 3) := by decide +kernel
theorem dX7_pourOne_7 : decode cX7_pourOne 7 = .ok (.if_icmp .ge 35, 3) := by decide +kernel
theorem dX7_pourOne_10 : decode cX7_pourOne 10 = .ok (.aload_n 0, 1) := by decide +kernel
theorem dX7_pourOne_11 : decode cX7_pourOne 11 = .ok (.getfield 44, 3) := by decide +kernel
theorem dX7_pourOne_14 : decode cX7_pourOne 14 = .ok (.iload_n 3, 1) := by decide +kernel
theorem dX7_pourOne_15 : decode cX7_pourOne 15 = .ok (.aload_n 0, 1) := by decide +kernel
theorem dX7_pourOne_16 : decode cX7_pourOne 16 = .ok (.getfield 44, 3) := by decide +kernel
theorem dX7_pourOne_19 : decode cX7_pourOne 19 = .ok (.iload_n 3, 1) := by decide +kernel
theorem dX7_pourOne_20 : decode cX7_pourOne 20 = .ok (.iaload, 1) := by decide +kernel
theorem dX7_pourOne_21 : decode cX7_pourOne 21 = .ok (.iload_n 1, 1) := by decide +kernel
theorem dX7_pourOne_22 : decode cX7_pourOne 22 = .ok (.if_icmp .ne 7, 3) := by decide +kernel
theorem dX7_pourOne_25 : decode cX7_pourOne 25 = .ok (.iload_n 2, 1) := by decide +kernel
theorem dX7_pourOne_26 : decode cX7_pourOne 26 = .ok (.goto 9, 3) := by decide +kernel
theorem dX7_pourOne_29 : decode cX7_pourOne 29 = .ok (.aload_n 0, 1) := by decide +kernel
theorem dX7_pourOne_30 : decode cX7_pourOne 30 = .ok (.getfield 44, 3) := by decide +kernel
theorem dX7_pourOne_33 : decode cX7_pourOne 33 = .ok (.iload_n 3, 1) := by decide +kernel
theorem dX7_pourOne_34 : decode cX7_pourOne 34 = .ok (.iaload, 1) := by decide +kernel
theorem dX7_pourOne_35 : decode cX7_pourOne 35 = .ok (.iastore, 1) := by decide +kernel
theorem dX7_pourOne_36 : decode cX7_pourOne 36 = .ok (.iinc 3 1, 3) := by decide +kernel
theorem dX7_pourOne_39 : decode cX7_pourOne 39 = .ok (.goto (-37), 3) := by decide +kernel
theorem dX7_pourOne_42 : decode cX7_pourOne 42 = .ok (.iconst 0, 1) := by decide +kernel
theorem dX7_pourOne_43 : decode cX7_pourOne 43 = .ok (.istore_n 3, 1) := by decide +kernel
theorem dX7_pourOne_44 : decode cX7_pourOne 44 = .ok (.iconst 0, 1) := by decide +kernel
theorem dX7_pourOne_45 : decode cX7_pourOne 45 = .ok (.istore 4, 2) := by decide +kernel
theorem dX7_pourOne_47 : decode cX7_pourOne 47 = .ok (.iload 4, 2) := by decide +kernel
theorem dX7_pourOne_49 : decode cX7_pourOne 49 = .ok (.aload_n 0, 1) := by decide +kernel
theorem dX7_pourOne_50 : decode cX7_pourOne 50 = .ok (.invokevirtual 80, 3) := by decide +kernel
theorem dX7_pourOne_53 : decode cX7_pourOne 53 = .ok (.if_icmp .ge 66, 3) := by decide +kernel
theorem dX7_pourOne_56 : decode cX7_pourOne 56 = .ok (.aload_n 0, 1) := by decide +kernel
theorem dX7_pourOne_57 : decode cX7_pourOne 57 = .ok (.getfield 62, 3) := by decide +kernel
theorem dX7_pourOne_60 : decode cX7_pourOne 60 = .ok (.iload 4, 2) := by decide +kernel
theorem dX7_pourOne_62 : decode cX7_pourOne 62 = .ok (.aload_n 0, 1) := by decide +kernel
theorem dX7_pourOne_63 : decode cX7_pourOne 63 = .ok (.getfield 44, 3) := by decide +kernel
theorem dX7_pourOne_66 : decode cX7_pourOne 66 = .ok (.iload 4, 2) := by decide +kernel
theorem dX7_pourOne_68 : decode cX7_pourOne 68 = .ok (.iaload, 1) := by decide +kernel
theorem dX7_pourOne_69 : decode cX7_pourOne 69 = .ok (.iastore, 1) := by decide +kernel
theorem dX7_pourOne_70 : decode cX7_pourOne 70 = .ok (.aload_n 0, 1) := by decide +kernel
theorem dX7_pourOne_71 : decode cX7_pourOne 71 = .ok (.getfield 44, 3) := by decide +kernel
theorem dX7_pourOne_74 : decode cX7_pourOne 74 = .ok (.iload 4, 2) := by decide +kernel
theorem dX7_pourOne_76 : decode cX7_pourOne 76 = .ok (.iaload, 1) := by decide +kernel
theorem dX7_pourOne_77 : decode cX7_pourOne 77 = .ok (.ifCond .ne 36, 3) := by decide +kernel
theorem dX7_pourOne_80 : decode cX7_pourOne 80 = .ok (.aload_n 0, 1) := by decide +kernel
theorem dX7_pourOne_81 : decode cX7_pourOne 81 = .ok (.aload_n 0, 1) := by decide +kernel
theorem dX7_pourOne_82 : decode cX7_pourOne 82 = .ok (.getfield 44, 3) := by decide +kernel
theorem dX7_pourOne_85 : decode cX7_pourOne 85 = .ok (.iload 4, 2) := by decide +kernel
theorem dX7_pourOne_87 : decode cX7_pourOne 87 = .ok (.invokevirtual 112, 3) := by decide +kernel
theorem dX7_pourOne_90 : decode cX7_pourOne 90 = .ok (.ifCond .le 23, 3) := by decide +kernel
theorem dX7_pourOne_93 : decode cX7_pourOne 93 = .ok (.aload_n 0, 1) := by decide +kernel
theorem dX7_pourOne_94 : decode cX7_pourOne 94 = .ok (.getfield 62, 3) := by decide +kernel
theorem dX7_pourOne_97 : decode cX7_pourOne 97 = .ok (.iload 4, 2) := by decide +kernel
theorem dX7_pourOne_99 : decode cX7_pourOne 99 = .ok (.aload_n 0, 1) := by decide +kernel
theorem dX7_pourOne_100 : decode cX7_pourOne 100 = .ok (.aload_n 0, 1) := by decide +kernel
theorem dX7_pourOne_101 : decode cX7_pourOne 101 = .ok (.getfield 44, 3) := by decide +kernel
theorem dX7_pourOne_104 : decode cX7_pourOne 104 = .ok (.iload 4, 2) := by decide +kernel
theorem dX7_pourOne_106 : decode cX7_pourOne 106 = .ok (.invokevirtual 112, 3) := by decide +kernel
theorem dX7_pourOne_109 : decode cX7_pourOne 109 = .ok (.iastore, 1) := by decide +kernel
theorem dX7_pourOne_110 : decode cX7_pourOne 110 = .ok (.iinc 3 1, 3) := by decide +kernel
theorem dX7_pourOne_113 : decode cX7_pourOne 113 = .ok (.iinc 4 1, 3) := by decide +kernel
theorem dX7_pourOne_116 : decode cX7_pourOne 116 = .ok (.goto (-69), 3) := by decide +kernel
theorem dX7_pourOne_119 : decode cX7_pourOne 119 = .ok (.iconst 0, 1) := by decide +kernel
theorem dX7_pourOne_120 : decode cX7_pourOne 120 = .ok (.istore 4, 2) := by decide +kernel
theorem dX7_pourOne_122 : decode cX7_pourOne 122 = .ok (.iload 4, 2) := by decide +kernel
theorem dX7_pourOne_124 : decode cX7_pourOne 124 = .ok (.aload_n 0, 1) := by decide +kernel
theorem dX7_pourOne_125 : decode cX7_pourOne 125 = .ok (.invokevirtual 80, 3) := by decide +kernel
theorem dX7_pourOne_128 : decode cX7_pourOne 128 = .ok (.if_icmp .ge 23, 3) := by decide +kernel
theorem dX7_pourOne_131 : decode cX7_pourOne 131 = .ok (.aload_n 0, 1) := by decide +kernel
theorem dX7_pourOne_132 : decode cX7_pourOne 132 = .ok (.getfield 44, 3) := by decide +kernel
theorem dX7_pourOne_135 : decode cX7_pourOne 135 = .ok (.iload 4, 2) := by decide +kernel
theorem dX7_pourOne_137 : decode cX7_pourOne 137 = .ok (.aload_n 0, 1) := by decide +kernel
theorem dX7_pourOne_138 : decode cX7_pourOne 138 = .ok (.getfield 62, 3) := by decide +kernel
theorem dX7_pourOne_141 : decode cX7_pourOne 141 = .ok (.iload 4, 2) := by decide +kernel
theorem dX7_pourOne_143 : decode cX7_pourOne 143 = .ok (.iaload, 1) := by decide +kernel
theorem dX7_pourOne_144 : decode cX7_pourOne 144 = .ok (.iastore, 1) := by decide +kernel
theorem dX7_pourOne_145 : decode cX7_pourOne 145 = .ok (.iinc 4 1, 3) := by decide +kernel
theorem dX7_pourOne_148 : decode cX7_pourOne 148 = .ok (.goto (-26), 3) := by decide +kernel
theorem dX7_pourOne_151 : decode cX7_pourOne 151 = .ok (.iload_n 3, 1) := by decide +kernel
theorem dX7_pourOne_152 : decode cX7_pourOne 152 = .ok (.ireturn, 1) := by decide +kernel
theorem dX7_pour_0 : decode cX7_pour 0 = .ok (.aload_n 0, 1) := by decide +kernel
theorem dX7_pour_1 : decode cX7_pour 1 = .ok (.invokevirtual 131, 3) := by decide +kernel
theorem dX7_pour_4 : decode cX7_pour 4 = .ok (.iconst 0, 1) := by decide +kernel
theorem dX7_pour_5 : decode cX7_pour 5 = .ok (.istore_n 3, 1) := by decide +kernel
theorem dX7_pour_6 : decode cX7_pour 6 = .ok (.iload_n 3, 1) := by decide +kernel
theorem dX7_pour_7 : decode cX7_pour 7 = .ok (.sipush 144, 3) := by decide +kernel
theorem dX7_pour_10 : decode cX7_pour 10 = .ok (.if_icmp .ge 21, 3) := by decide +kernel
theorem dX7_pour_13 : decode cX7_pour 13 = .ok (.aload_n 0, 1) := by decide +kernel
theorem dX7_pour_14 : decode cX7_pour 14 = .ok (.getfield 44, 3) := by decide +kernel
theorem dX7_pour_17 : decode cX7_pour 17 = .ok (.iload_n 3, 1) := by decide +kernel
theorem dX7_pour_18 : decode cX7_pour 18 = .ok (.aload_n 0, 1) := by decide +kernel
theorem dX7_pour_19 : decode cX7_pour 19 = .ok (.getfield 29, 3) := by decide +kernel
theorem dX7_pour_22 : decode cX7_pour 22 = .ok (.iload_n 3, 1) := by decide +kernel
theorem dX7_pour_23 : decode cX7_pour 23 = .ok (.iaload, 1) := by decide +kernel
theorem dX7_pour_24 : decode cX7_pour 24 = .ok (.iastore, 1) := by decide +kernel
theorem dX7_pour_25 : decode cX7_pour 25 = .ok (.iinc 3 1, 3) := by decide +kernel
theorem dX7_pour_28 : decode cX7_pour 28 = .ok (.goto (-22), 3) := by decide +kernel
theorem dX7_pour_31 : decode cX7_pour 31 = .ok (.aload_n 0, 1) := by decide +kernel
theorem dX7_pour_32 : decode cX7_pour 32 = .ok (.iconst 0, 1) := by decide +kernel
theorem dX7_pour_33 : decode cX7_pour 33 = .ok (.putfield 134, 3) := by decide +kernel
theorem dX7_pour_36 : decode cX7_pour 36 = .ok (.iconst 1, 1) := by decide +kernel
theorem dX7_pour_37 : decode cX7_pour 37 = .ok (.istore_n 3, 1) := by decide +kernel
theorem dX7_pour_38 : decode cX7_pour 38 = .ok (.iload_n 3, 1) := by decide +kernel
theorem dX7_pour_39 : decode cX7_pour 39 = .ok (.ifCond .eq 190, 3) := by decide +kernel
theorem dX7_pour_42 : decode cX7_pour 42 = .ok (.bipush (-6), 2) := by decide +kernel
theorem dX7_pour_44 : decode cX7_pour 44 = .ok (.istore 4, 2) := by decide +kernel
theorem dX7_pour_46 : decode cX7_pour 46 = .ok (.bipush (-6), 2) := by decide +kernel
theorem dX7_pour_48 : decode cX7_pour 48 = .ok (.istore 5, 2) := by decide +kernel
theorem dX7_pour_50 : decode cX7_pour 50 = .ok (.bipush (-6), 2) := by decide +kernel
theorem dX7_pour_52 : decode cX7_pour 52 = .ok (.istore 6, 2) := by decide +kernel
theorem dX7_pour_54 : decode cX7_pour 54 = .ok (.iconst 1, 1) := by decide +kernel
theorem dX7_pour_55 : decode cX7_pour 55 = .ok (.istore 7, 2) := by decide +kernel
theorem dX7_pour_57 : decode cX7_pour 57 = .ok (.iload 7, 2) := by decide +kernel
theorem dX7_pour_59 : decode cX7_pour 59 = .ok (.bipush 100, 2) := by decide +kernel
theorem dX7_pour_61 : decode cX7_pour 61 = .ok (.if_icmp .ge 90, 3) := by decide +kernel
theorem dX7_pour_64 : decode cX7_pour 64 = .ok (.aload_n 0, 1) := by decide +kernel
theorem dX7_pour_65 : decode cX7_pour 65 = .ok (.aload_n 0, 1) := by decide +kernel
theorem dX7_pour_66 : decode cX7_pour 66 = .ok (.getfield 44, 3) := by decide +kernel
theorem dX7_pour_69 : decode cX7_pour 69 = .ok (.iload 7, 2) := by decide +kernel
theorem dX7_pour_71 : decode cX7_pour 71 = .ok (.invokevirtual 125, 3) := by decide +kernel
theorem dX7_pour_74 : decode cX7_pour 74 = .ok (.ifCond .le 12, 3) := by decide +kernel
theorem dX7_pour_77 : decode cX7_pour 77 = .ok (.aload_n 0, 1) := by decide +kernel
theorem dX7_pour_78 : decode cX7_pour 78 = .ok (.iload 7, 2) := by decide +kernel
theorem dX7_pour_80 : decode cX7_pour 80 = .ok (.invokevirtual 137, 3) := by decide +kernel
theorem dX7_pour_83 : decode cX7_pour 83 = .ok (.goto 5, 3) := by decide +kernel
theorem dX7_pour_86 : decode cX7_pour 86 = .ok (.bipush (-6), 2) := by decide +kernel
theorem dX7_pour_88 : decode cX7_pour 88 = .ok (.istore 8, 2) := by decide +kernel
theorem dX7_pour_90 : decode cX7_pour 90 = .ok (.iload 8, 2) := by decide +kernel
theorem dX7_pour_92 : decode cX7_pour 92 = .ok (.ifCond .lt 53, 3) := by decide +kernel
theorem dX7_pour_95 : decode cX7_pour 95 = .ok (.aload_n 0, 1) := by decide +kernel
theorem dX7_pour_96 : decode cX7_pour 96 = .ok (.getfield 59, 3) := by decide +kernel
theorem dX7_pour_99 : decode cX7_pour 99 = .ok (.iload 8, 2) := by decide +kernel
theorem dX7_pour_101 : decode cX7_pour 101 = .ok (.iaload, 1) := by decide +kernel
theorem dX7_pour_102 : decode cX7_pour 102 = .ok (.istore 9, 2) := by decide +kernel
theorem dX7_pour_104 : decode cX7_pour 104 = .ok (.iload_n 2, 1) := by decide +kernel
theorem dX7_pour_105 : decode cX7_pour 105 = .ok (.ifCond .lt 16, 3) := by decide +kernel
theorem dX7_pour_108 : decode cX7_pour 108 = .ok (.aload_n 0, 1) := by decide +kernel
theorem dX7_pour_109 : decode cX7_pour 109 = .ok (.iload 7, 2) := by decide +kernel
theorem dX7_pour_111 : decode cX7_pour 111 = .ok (.iload_n 1, 1) := by decide +kernel
theorem dX7_pour_112 : decode cX7_pour 112 = .ok (.iload 9, 2) := by decide +kernel
theorem dX7_pour_114 : decode cX7_pour 114 = .ok (.invokevirtual 140, 3) := by decide +kernel
theorem dX7_pour_117 : decode cX7_pour 117 = .ok (.iload_n 2, 1) := by decide +kernel
theorem dX7_pour_118 : decode cX7_pour 118 = .ok (.if_icmp .ge 27, 3) := by decide +kernel
theorem dX7_pour_121 : decode cX7_pour 121 = .ok (.iload 4, 2) := by decide +kernel
theorem dX7_pour_123 : decode cX7_pour 123 = .ok (.ifCond .lt 10, 3) := by decide +kernel
theorem dX7_pour_126 : decode cX7_pour 126 = .ok (.iload 9, 2) := by decide +kernel
theorem dX7_pour_128 : decode cX7_pour 128 = .ok (.iload 6, 2) := by decide +kernel
theorem dX7_pour_130 : decode cX7_pour 130 = .ok (.if_icmp .ge 15, 3) := by decide +kernel
theorem dX7_pour_133 : decode cX7_pour 133 = .ok (.iload 7, 2) := by decide +kernel
theorem dX7_pour_135 : decode cX7_pour 135 = .ok (.istore 4, 2) := by decide +kernel
theorem dX7_pour_137 : decode cX7_pour 137 = .ok (.iload 8, 2) := by decide +kernel
theorem dX7_pour_139 : decode cX7_pour 139 = .ok (.istore 5, 2) := by decide +kernel
theorem dX7_pour_141 : decode cX7_pour 141 = .ok (.iload 9, 2) := by decide +kernel
theorem dX7_pour_143 : decode cX7_pour 143 = .ok (.istore 6, 2) := by decide +kernel
theorem dX7_pour_145 : decode cX7_pour 145 = .ok (.iinc 7 1, 3) := by decide +kernel
theorem dX7_pour_148 : decode cX7_pour 148 = .ok (.goto (-91), 3) := by decide +kernel
theorem dX7_pour_151 : decode cX7_pour 151 = .ok (.iload 4, 2) := by decide +kernel
theorem dX7_pour_153 : decode cX7_pour 153 = .ok (.ifCond .lt 7, 3) := by decide +kernel
theorem dX7_pour_156 : decode cX7_pour 156 = .ok (.iconst 1, 1) := by decide +kernel
theorem dX7_pour_157 : decode cX7_pour 157 = .ok (.goto 4, 3) := by decide +kernel
theorem dX7_pour_160 : decode cX7_pour 160 = .ok (.iconst 0, 1) := by decide +kernel
theorem dX7_pour_161 : decode cX7_pour 161 = .ok (.istore_n 3, 1) := by decide +kernel
theorem dX7_pour_162 : decode cX7_pour 162 = .ok (.iload_n 3, 1) := by decide +kernel
theorem dX7_pour_163 : decode cX7_pour 163 = .ok (.ifCond .eq 63, 3) := by decide +kernel
theorem dX7_pour_166 : decode cX7_pour 166 = .ok (.aload_n 0, 1) := by decide +kernel
theorem dX7_pour_167 : decode cX7_pour 167 = .ok (.getfield 47, 3) := by decide +kernel
theorem dX7_pour_170 : decode cX7_pour 170 = .ok (.aload_n 0, 1) := by decide +kernel
theorem dX7_pour_171 : decode cX7_pour 171 = .ok (.getfield 134, 3) := by decide +kernel
theorem dX7_pour_174 : decode cX7_pour 174 = .ok (.iload 4, 2) := by decide +kernel
theorem dX7_pour_176 : decode cX7_pour 176 = .ok (.iastore, 1) := by decide +kernel
theorem dX7_pour_177 : decode cX7_pour 177 = .ok (.aload_n 0, 1) := by decide +kernel
theorem dX7_pour_178 : decode cX7_pour 178 = .ok (.getfield 50, 3) := by decide +kernel
theorem dX7_pour_181 : decode cX7_pour 181 = .ok (.aload_n 0, 1) := by decide +kernel
theorem dX7_pour_182 : decode cX7_pour 182 = .ok (.getfield 134, 3) := by decide +kernel
theorem dX7_pour_185 : decode cX7_pour 185 = .ok (.iload 5, 2) := by decide +kernel
theorem dX7_pour_187 : decode cX7_pour 187 = .ok (.iastore, 1) := by decide +kernel
theorem dX7_pour_188 : decode cX7_pour 188 = .ok (.aload_n 0, 1) := by decide +kernel
theorem dX7_pour_189 : decode cX7_pour 189 = .ok (.getfield 53, 3) := by decide +kernel
theorem dX7_pour_192 : decode cX7_pour 192 = .ok (.aload_n 0, 1) := by decide +kernel
theorem dX7_pour_193 : decode cX7_pour 193 = .ok (.getfield 134, 3) := by decide +kernel
theorem dX7_pour_196 : decode cX7_pour 196 = .ok (.iload 6, 2) := by decide +kernel
theorem dX7_pour_198 : decode cX7_pour 198 = .ok (.iastore, 1) := by decide +kernel
theorem dX7_pour_199 : decode cX7_pour 199 = .ok (.aload_n 0, 1) := by decide +kernel
theorem dX7_pour_200 : decode cX7_pour 200 = .ok (.getfield 56, 3) := by decide +kernel
theorem dX7_pour_203 : decode cX7_pour 203 = .ok (.aload_n 0, 1) := by decide +kernel
theorem dX7_pour_204 : decode cX7_pour 204 = .ok (.getfield 134, 3) := by decide +kernel
theorem dX7_pour_207 : decode cX7_pour 207 = .ok (.aload_n 0, 1) := by decide +kernel
theorem dX7_pour_208 : decode cX7_pour 208 = .ok (.iload 4, 2) := by decide +kernel
theorem dX7_pour_210 : decode cX7_pour 210 = .ok (.iload 5, 2) := by decide +kernel
theorem dX7_pour_212 : decode cX7_pour 212 = .ok (.invokevirtual 144, 3) := by decide +kernel
theorem dX7_pour_215 : decode cX7_pour 215 = .ok (.iastore, 1) := by decide +kernel
theorem dX7_pour_216 : decode cX7_pour 216 = .ok (.aload_n 0, 1) := by decide +kernel
theorem dX7_pour_217 : decode cX7_pour 217 = .ok (.dup, 1) := by decide +kernel
theorem dX7_pour_218 : decode cX7_pour 218 = .ok (.getfield 134, 3) := by decide +kernel
theorem dX7_pour_221 : decode cX7_pour 221 = .ok (.iconst 1, 1) := by decide +kernel
theorem dX7_pour_222 : decode cX7_pour 222 = .ok (.iadd, 1) := by decide +kernel
theorem dX7_pour_223 : decode cX7_pour 223 = .ok (.putfield 134, 3) := by decide +kernel
theorem dX7_pour_226 : decode cX7_pour 226 = .ok (.goto (-188), 3) := by decide +kernel
theorem dX7_pour_229 : decode cX7_pour 229 = .ok (.return_, 1) := by decide +kernel
theorem dX7_pourAsTold_0 : decode cX7_pourAsTold 0 = .ok (.aload_n 0, 1) := by decide +kernel
theorem dX7_pourAsTold_1 : decode cX7_pourAsTold 1 = .ok (.aload_n 0, 1) := by decide +kernel
theorem dX7_pourAsTold_2 : decode cX7_pourAsTold 2 = .ok (.getfield 7, 3) := by decide +kernel
theorem dX7_pourAsTold_5 : decode cX7_pourAsTold 5 = .ok (.sipush 290, 3) := by decide +kernel
theorem dX7_pourAsTold_8 : decode cX7_pourAsTold 8 = .ok (.iaload, 1) := by decide +kernel
theorem dX7_pourAsTold_9 : decode cX7_pourAsTold 9 = .ok (.aload_n 0, 1) := by decide +kernel
theorem dX7_pourAsTold_10 : decode cX7_pourAsTold 10 = .ok (.getfield 7, 3) := by decide +kernel
theorem dX7_pourAsTold_13 : decode cX7_pourAsTold 13 = .ok (.sipush 291, 3) := by decide +kernel
theorem dX7_pourAsTold_16 : decode cX7_pourAsTold 16 = .ok (.iaload, 1) := by decide +kernel
theorem dX7_pourAsTold_17 : decode cX7_pourAsTold 17 = .ok (.invokevirtual 147, 3) := by decide +kernel
theorem dX7_pourAsTold_20 : decode cX7_pourAsTold 20 = .ok (.return_, 1) := by decide +kernel
theorem dX7_dot_0 : decode cX7_dot 0 = .ok (.aload_n 0, 1) := by decide +kernel
theorem dX7_dot_1 : decode cX7_dot 1 = .ok (.iload_n 1, 1) := by decide +kernel
theorem dX7_dot_2 : decode cX7_dot 2 = .ok (.iload_n 2, 1) := by decide +kernel
theorem dX7_dot_3 : decode cX7_dot 3 = .ok (.invokevirtual 69, 3) := by decide +kernel
theorem dX7_dot_6 : decode cX7_dot 6 = .ok (.ifCond .eq 12, 3) := by decide +kernel
theorem dX7_dot_9 : decode cX7_dot 9 = .ok (.iload_n 3, 1) := by decide +kernel
theorem dX7_dot_10 : decode cX7_dot 10 = .ok (.iconst 0, 1) := by decide +kernel
theorem dX7_dot_11 : decode cX7_dot 11 = .ok (.iconst 5, 1) := by decide +kernel
theorem dX7_dot_12 : decode cX7_dot 12 = .ok (.invokestatic 65, 3) := by decide +kernel
theorem dX7_dot_15 : decode cX7_dot 15 = .ok (.ifCond .ne 6, 3) := by decide +kernel
theorem dX7_dot_18 : decode cX7_dot 18 = .ok (.bipush (-2), 2) := by decide +kernel
theorem dX7_dot_20 : decode cX7_dot 20 = .ok (.ireturn, 1) := by decide +kernel
theorem dX7_dot_21 : decode cX7_dot 21 = .ok (.aload_n 0, 1) := by decide +kernel
theorem dX7_dot_22 : decode cX7_dot 22 = .ok (.iload_n 1, 1) := by decide +kernel
theorem dX7_dot_23 : decode cX7_dot 23 = .ok (.iload_n 2, 1) := by decide +kernel
theorem dX7_dot_24 : decode cX7_dot 24 = .ok (.invokevirtual 73, 3) := by decide +kernel
theorem dX7_dot_27 : decode cX7_dot 27 = .ok (.istore 4, 2) := by decide +kernel
theorem dX7_dot_29 : decode cX7_dot 29 = .ok (.aload_n 0, 1) := by decide +kernel
theorem dX7_dot_30 : decode cX7_dot 30 = .ok (.invokevirtual 151, 3) := by decide +kernel
theorem dX7_dot_33 : decode cX7_dot 33 = .ok (.iload_n 3, 1) := by decide +kernel
theorem dX7_dot_34 : decode cX7_dot 34 = .ok (.tableswitch 78 0 4 #[34, 42, 54, 62, 70], 34) := by decide +kernel
theorem dX7_dot_68 : decode cX7_dot 68 = .ok (.aload_n 0, 1) := by decide +kernel
theorem dX7_dot_69 : decode cX7_dot 69 = .ok (.getfield 7, 3) := by decide +kernel
theorem dX7_dot_72 : decode cX7_dot 72 = .ok (.iload 4, 2) := by decide +kernel
theorem dX7_dot_74 : decode cX7_dot 74 = .ok (.iaload, 1) := by decide +kernel
theorem dX7_dot_75 : decode cX7_dot 75 = .ok (.ireturn, 1) := by decide +kernel
theorem dX7_dot_76 : decode cX7_dot 76 = .ok (.aload_n 0, 1) := by decide +kernel
theorem dX7_dot_77 : decode cX7_dot 77 = .ok (.getfield 7, 3) := by decide +kernel
theorem dX7_dot_80 : decode cX7_dot 80 = .ok (.sipush 144, 3) := by decide +kernel
theorem dX7_dot_83 : decode cX7_dot 83 = .ok (.iload 4, 2) := by decide +kernel
theorem dX7_dot_85 : decode cX7_dot 85 = .ok (.iadd, 1) := by decide +kernel
theorem dX7_dot_86 : decode cX7_dot 86 = .ok (.iaload, 1) := by decide +kernel
theorem dX7_dot_87 : decode cX7_dot 87 = .ok (.ireturn, 1) := by decide +kernel
theorem dX7_dot_88 : decode cX7_dot 88 = .ok (.aload_n 0, 1) := by decide +kernel
theorem dX7_dot_89 : decode cX7_dot 89 = .ok (.getfield 29, 3) := by decide +kernel
theorem dX7_dot_92 : decode cX7_dot 92 = .ok (.iload 4, 2) := by decide +kernel
theorem dX7_dot_94 : decode cX7_dot 94 = .ok (.iaload, 1) := by decide +kernel
theorem dX7_dot_95 : decode cX7_dot 95 = .ok (.ireturn, 1) := by decide +kernel
theorem dX7_dot_96 : decode cX7_dot 96 = .ok (.aload_n 0, 1) := by decide +kernel
theorem dX7_dot_97 : decode cX7_dot 97 = .ok (.getfield 32, 3) := by decide +kernel
theorem dX7_dot_100 : decode cX7_dot 100 = .ok (.iload 4, 2) := by decide +kernel
theorem dX7_dot_102 : decode cX7_dot 102 = .ok (.iaload, 1) := by decide +kernel
theorem dX7_dot_103 : decode cX7_dot 103 = .ok (.ireturn, 1) := by decide +kernel
theorem dX7_dot_104 : decode cX7_dot 104 = .ok (.aload_n 0, 1) := by decide +kernel
theorem dX7_dot_105 : decode cX7_dot 105 = .ok (.getfield 35, 3) := by decide +kernel
theorem dX7_dot_108 : decode cX7_dot 108 = .ok (.iload 4, 2) := by decide +kernel
theorem dX7_dot_110 : decode cX7_dot 110 = .ok (.iaload, 1) := by decide +kernel
theorem dX7_dot_111 : decode cX7_dot 111 = .ok (.ireturn, 1) := by decide +kernel
theorem dX7_dot_112 : decode cX7_dot 112 = .ok (.aload_n 0, 1) := by decide +kernel
theorem dX7_dot_113 : decode cX7_dot 113 = .ok (.getfield 44, 3) := by decide +kernel
theorem dX7_dot_116 : decode cX7_dot 116 = .ok (.iload 4, 2) := by decide +kernel
theorem dX7_dot_118 : decode cX7_dot 118 = .ok (.iaload, 1) := by decide +kernel
theorem dX7_dot_119 : decode cX7_dot 119 = .ok (.ireturn, 1) := by decide +kernel
theorem dX7_bound_0 : decode cX7_bound 0 = .ok (.iload_n 1, 1) := by decide +kernel
theorem dX7_bound_1 : decode cX7_bound 1 = .ok (.iconst 0, 1) := by decide +kernel
theorem dX7_bound_2 : decode cX7_bound 2 = .ok (.iconst 2, 1) := by decide +kernel
theorem dX7_bound_3 : decode cX7_bound 3 = .ok (.invokestatic 65, 3) := by decide +kernel
theorem dX7_bound_6 : decode cX7_bound 6 = .ok (.ifCond .eq 14, 3) := by decide +kernel
theorem dX7_bound_9 : decode cX7_bound 9 = .ok (.iload_n 2, 1) := by decide +kernel
theorem dX7_bound_10 : decode cX7_bound 10 = .ok (.iconst 0, 1) := by decide +kernel
theorem dX7_bound_11 : decode cX7_bound 11 = .ok (.sipush 2000, 3) := by decide +kernel
theorem dX7_bound_14 : decode cX7_bound 14 = .ok (.invokestatic 65, 3) := by decide +kernel
theorem dX7_bound_17 : decode cX7_bound 17 = .ok (.ifCond .ne 6, 3) := by decide +kernel
theorem dX7_bound_20 : decode cX7_bound 20 = .ok (.bipush (-2), 2) := by decide +kernel
theorem dX7_bound_22 : decode cX7_bound 22 = .ok (.ireturn, 1) := by decide +kernel
theorem dX7_bound_23 : decode cX7_bound 23 = .ok (.aload_n 0, 1) := by decide +kernel
theorem dX7_bound_24 : decode cX7_bound 24 = .ok (.getfield 7, 3) := by decide +kernel
theorem dX7_bound_27 : decode cX7_bound 27 = .ok (.sipush 290, 3) := by decide +kernel
theorem dX7_bound_30 : decode cX7_bound 30 = .ok (.iload_n 1, 1) := by decide +kernel
theorem dX7_bound_31 : decode cX7_bound 31 = .ok (.iastore, 1) := by decide +kernel
theorem dX7_bound_32 : decode cX7_bound 32 = .ok (.aload_n 0, 1) := by decide +kernel
theorem dX7_bound_33 : decode cX7_bound 33 = .ok (.getfield 7, 3) := by decide +kernel
theorem dX7_bound_36 : decode cX7_bound 36 = .ok (.sipush 291, 3) := by decide +kernel
theorem dX7_bound_39 : decode cX7_bound 39 = .ok (.iload_n 2, 1) := by decide +kernel
theorem dX7_bound_40 : decode cX7_bound 40 = .ok (.iastore, 1) := by decide +kernel
theorem dX7_bound_41 : decode cX7_bound 41 = .ok (.aload_n 0, 1) := by decide +kernel
theorem dX7_bound_42 : decode cX7_bound 42 = .ok (.invokevirtual 151, 3) := by decide +kernel
theorem dX7_bound_45 : decode cX7_bound 45 = .ok (.aload_n 0, 1) := by decide +kernel
theorem dX7_bound_46 : decode cX7_bound 46 = .ok (.getfield 134, 3) := by decide +kernel
theorem dX7_bound_49 : decode cX7_bound 49 = .ok (.ireturn, 1) := by decide +kernel
theorem dX7_isBasin_0 : decode cX7_isBasin 0 = .ok (.iload_n 1, 1) := by decide +kernel
theorem dX7_isBasin_1 : decode cX7_isBasin 1 = .ok (.iconst 1, 1) := by decide +kernel
theorem dX7_isBasin_2 : decode cX7_isBasin 2 = .ok (.bipush 99, 2) := by decide +kernel
theorem dX7_isBasin_4 : decode cX7_isBasin 4 = .ok (.invokestatic 65, 3) := by decide +kernel
theorem dX7_isBasin_7 : decode cX7_isBasin 7 = .ok (.ifCond .eq 19, 3) := by decide +kernel
theorem dX7_isBasin_10 : decode cX7_isBasin 10 = .ok (.aload_n 0, 1) := by decide +kernel
theorem dX7_isBasin_11 : decode cX7_isBasin 11 = .ok (.aload_n 0, 1) := by decide +kernel
theorem dX7_isBasin_12 : decode cX7_isBasin 12 = .ok (.getfield 44, 3) := by decide +kernel
theorem dX7_isBasin_15 : decode cX7_isBasin 15 = .ok (.iload_n 1, 1) := by decide +kernel
theorem dX7_isBasin_16 : decode cX7_isBasin 16 = .ok (.invokevirtual 125, 3) := by decide +kernel
theorem dX7_isBasin_19 : decode cX7_isBasin 19 = .ok (.ifCond .le 7, 3) := by decide +kernel
theorem dX7_isBasin_22 : decode cX7_isBasin 22 = .ok (.iconst 1, 1) := by decide +kernel
theorem dX7_isBasin_23 : decode cX7_isBasin 23 = .ok (.goto 4, 3) := by decide +kernel
theorem dX7_isBasin_26 : decode cX7_isBasin 26 = .ok (.iconst 0, 1) := by decide +kernel
theorem dX7_isBasin_27 : decode cX7_isBasin 27 = .ok (.ireturn, 1) := by decide +kernel
theorem dX7_basin_0 : decode cX7_basin 0 = .ok (.aload_n 0, 1) := by decide +kernel
theorem dX7_basin_1 : decode cX7_basin 1 = .ok (.invokevirtual 151, 3) := by decide +kernel
theorem dX7_basin_4 : decode cX7_basin 4 = .ok (.aload_n 0, 1) := by decide +kernel
theorem dX7_basin_5 : decode cX7_basin 5 = .ok (.iload_n 1, 1) := by decide +kernel
theorem dX7_basin_6 : decode cX7_basin 6 = .ok (.invokevirtual 154, 3) := by decide +kernel
theorem dX7_basin_9 : decode cX7_basin 9 = .ok (.ifCond .ne 5, 3) := by decide +kernel
theorem dX7_basin_12 : decode cX7_basin 12 = .ok (.iconst (-1), 1) := by decide +kernel
theorem dX7_basin_13 : decode cX7_basin 13 = .ok (.ireturn, 1) := by decide +kernel
theorem dX7_basin_14 : decode cX7_basin 14 = .ok (.iload_n 2, 1) := by decide +kernel
theorem dX7_basin_15 : decode cX7_basin 15 = .ok (.iconst 0, 1) := by decide +kernel
theorem dX7_basin_16 : decode cX7_basin 16 = .ok (.iconst 5, 1) := by decide +kernel
theorem dX7_basin_17 : decode cX7_basin 17 = .ok (.invokestatic 65, 3) := by decide +kernel
theorem dX7_basin_20 : decode cX7_basin 20 = .ok (.ifCond .ne 6, 3) := by decide +kernel
theorem dX7_basin_23 : decode cX7_basin 23 = .ok (.bipush (-2), 2) := by decide +kernel
theorem dX7_basin_25 : decode cX7_basin 25 = .ok (.ireturn, 1) := by decide +kernel
theorem dX7_basin_26 : decode cX7_basin 26 = .ok (.aload_n 0, 1) := by decide +kernel
theorem dX7_basin_27 : decode cX7_basin 27 = .ok (.iload_n 1, 1) := by decide +kernel
theorem dX7_basin_28 : decode cX7_basin 28 = .ok (.invokevirtual 137, 3) := by decide +kernel
theorem dX7_basin_31 : decode cX7_basin 31 = .ok (.istore_n 3, 1) := by decide +kernel
theorem dX7_basin_32 : decode cX7_basin 32 = .ok (.iload_n 3, 1) := by decide +kernel
theorem dX7_basin_33 : decode cX7_basin 33 = .ok (.ifCond .ge 8, 3) := by decide +kernel
theorem dX7_basin_36 : decode cX7_basin 36 = .ok (.bipush (-6), 2) := by decide +kernel
theorem dX7_basin_38 : decode cX7_basin 38 = .ok (.goto 9, 3) := by decide +kernel
theorem dX7_basin_41 : decode cX7_basin 41 = .ok (.aload_n 0, 1) := by decide +kernel
theorem dX7_basin_42 : decode cX7_basin 42 = .ok (.getfield 59, 3) := by decide +kernel
theorem dX7_basin_45 : decode cX7_basin 45 = .ok (.iload_n 3, 1) := by decide +kernel
theorem dX7_basin_46 : decode cX7_basin 46 = .ok (.iaload, 1) := by decide +kernel
theorem dX7_basin_47 : decode cX7_basin 47 = .ok (.istore 4, 2) := by decide +kernel
theorem dX7_basin_49 : decode cX7_basin 49 = .ok (.iload_n 2, 1) := by decide +kernel
theorem dX7_basin_50 : decode cX7_basin 50 = .ok (.iconst 3, 1) := by decide +kernel
theorem dX7_basin_51 : decode cX7_basin 51 = .ok (.if_icmp .ge 14, 3) := by decide +kernel
theorem dX7_basin_54 : decode cX7_basin 54 = .ok (.aload_n 0, 1) := by decide +kernel
theorem dX7_basin_55 : decode cX7_basin 55 = .ok (.iload_n 1, 1) := by decide +kernel
theorem dX7_basin_56 : decode cX7_basin 56 = .ok (.iload_n 2, 1) := by decide +kernel
theorem dX7_basin_57 : decode cX7_basin 57 = .ok (.iload 4, 2) := by decide +kernel
theorem dX7_basin_59 : decode cX7_basin 59 = .ok (.invokevirtual 140, 3) := by decide +kernel
theorem dX7_basin_62 : decode cX7_basin 62 = .ok (.goto 27, 3) := by decide +kernel
theorem dX7_basin_65 : decode cX7_basin 65 = .ok (.iload_n 2, 1) := by decide +kernel
theorem dX7_basin_66 : decode cX7_basin 66 = .ok (.iconst 3, 1) := by decide +kernel
theorem dX7_basin_67 : decode cX7_basin 67 = .ok (.if_icmp .ne 11, 3) := by decide +kernel
theorem dX7_basin_70 : decode cX7_basin 70 = .ok (.aload_n 0, 1) := by decide +kernel
theorem dX7_basin_71 : decode cX7_basin 71 = .ok (.iload_n 1, 1) := by decide +kernel
theorem dX7_basin_72 : decode cX7_basin 72 = .ok (.invokevirtual 128, 3) := by decide +kernel
theorem dX7_basin_75 : decode cX7_basin 75 = .ok (.goto 14, 3) := by decide +kernel
theorem dX7_basin_78 : decode cX7_basin 78 = .ok (.iload_n 2, 1) := by decide +kernel
theorem dX7_basin_79 : decode cX7_basin 79 = .ok (.iconst 4, 1) := by decide +kernel
theorem dX7_basin_80 : decode cX7_basin 80 = .ok (.if_icmp .ne 8, 3) := by decide +kernel
theorem dX7_basin_83 : decode cX7_basin 83 = .ok (.iload 4, 2) := by decide +kernel
theorem dX7_basin_85 : decode cX7_basin 85 = .ok (.goto 4, 3) := by decide +kernel
theorem dX7_basin_88 : decode cX7_basin 88 = .ok (.iload_n 3, 1) := by decide +kernel
theorem dX7_basin_89 : decode cX7_basin 89 = .ok (.ireturn, 1) := by decide +kernel
theorem dX7_pass_0 : decode cX7_pass 0 = .ok (.aload_n 0, 1) := by decide +kernel
theorem dX7_pass_1 : decode cX7_pass 1 = .ok (.invokevirtual 151, 3) := by decide +kernel
theorem dX7_pass_4 : decode cX7_pass 4 = .ok (.aload_n 0, 1) := by decide +kernel
theorem dX7_pass_5 : decode cX7_pass 5 = .ok (.iload_n 1, 1) := by decide +kernel
theorem dX7_pass_6 : decode cX7_pass 6 = .ok (.invokevirtual 154, 3) := by decide +kernel
theorem dX7_pass_9 : decode cX7_pass 9 = .ok (.ifCond .eq 11, 3) := by decide +kernel
theorem dX7_pass_12 : decode cX7_pass 12 = .ok (.aload_n 0, 1) := by decide +kernel
theorem dX7_pass_13 : decode cX7_pass 13 = .ok (.iload_n 2, 1) := by decide +kernel
theorem dX7_pass_14 : decode cX7_pass 14 = .ok (.invokevirtual 154, 3) := by decide +kernel
theorem dX7_pass_17 : decode cX7_pass 17 = .ok (.ifCond .ne 5, 3) := by decide +kernel
theorem dX7_pass_20 : decode cX7_pass 20 = .ok (.iconst (-1), 1) := by decide +kernel
theorem dX7_pass_21 : decode cX7_pass 21 = .ok (.ireturn, 1) := by decide +kernel
theorem dX7_pass_22 : decode cX7_pass 22 = .ok (.iload_n 1, 1) := by decide +kernel
theorem dX7_pass_23 : decode cX7_pass 23 = .ok (.iload_n 2, 1) := by decide +kernel
theorem dX7_pass_24 : decode cX7_pass 24 = .ok (.if_icmp .ne 8, 3) := by decide +kernel
theorem dX7_pass_27 : decode cX7_pass 27 = .ok (.bipush (-2), 2) := by decide +kernel
theorem dX7_pass_29 : decode cX7_pass 29 = .ok (.goto 9, 3) := by decide +kernel
theorem dX7_pass_32 : decode cX7_pass 32 = .ok (.aload_n 0, 1) := by decide +kernel
theorem dX7_pass_33 : decode cX7_pass 33 = .ok (.iload_n 1, 1) := by decide +kernel
theorem dX7_pass_34 : decode cX7_pass 34 = .ok (.iload_n 2, 1) := by decide +kernel
theorem dX7_pass_35 : decode cX7_pass 35 = .ok (.invokevirtual 158, 3) := by decide +kernel
theorem dX7_pass_38 : decode cX7_pass 38 = .ok (.ireturn, 1) := by decide +kernel
theorem dX7_told_0 : decode cX7_told 0 = .ok (.iload_n 1, 1) := by decide +kernel
theorem dX7_told_1 : decode cX7_told 1 = .ok (.iconst 0, 1) := by decide +kernel
theorem dX7_told_2 : decode cX7_told 2 = .ok (.aload_n 0, 1) := by decide +kernel
theorem dX7_told_3 : decode cX7_told 3 = .ok (.getfield 134, 3) := by decide +kernel
theorem dX7_told_6 : decode cX7_told 6 = .ok (.iconst 1, 1) := by decide +kernel
theorem dX7_told_7 : decode cX7_told 7 = .ok (.isub, 1) := by decide +kernel
theorem dX7_told_8 : decode cX7_told 8 = .ok (.invokestatic 65, 3) := by decide +kernel
theorem dX7_told_11 : decode cX7_told 11 = .ok (.ifCond .ne 6, 3) := by decide +kernel
theorem dX7_told_14 : decode cX7_told 14 = .ok (.bipush (-6), 2) := by decide +kernel
theorem dX7_told_16 : decode cX7_told 16 = .ok (.ireturn, 1) := by decide +kernel
theorem dX7_told_17 : decode cX7_told 17 = .ok (.iload_n 2, 1) := by decide +kernel
theorem dX7_told_18 : decode cX7_told 18 = .ok (.ifCond .ne 12, 3) := by decide +kernel
theorem dX7_told_21 : decode cX7_told 21 = .ok (.aload_n 0, 1) := by decide +kernel
theorem dX7_told_22 : decode cX7_told 22 = .ok (.getfield 47, 3) := by decide +kernel
theorem dX7_told_25 : decode cX7_told 25 = .ok (.iload_n 1, 1) := by decide +kernel
theorem dX7_told_26 : decode cX7_told 26 = .ok (.iaload, 1) := by decide +kernel
theorem dX7_told_27 : decode cX7_told 27 = .ok (.goto 37, 3) := by decide +kernel
theorem dX7_told_30 : decode cX7_told 30 = .ok (.iload_n 2, 1) := by decide +kernel
theorem dX7_told_31 : decode cX7_told 31 = .ok (.iconst 1, 1) := by decide +kernel
theorem dX7_told_32 : decode cX7_told 32 = .ok (.if_icmp .ne 12, 3) := by decide +kernel
theorem dX7_told_35 : decode cX7_told 35 = .ok (.aload_n 0, 1) := by decide +kernel
theorem dX7_told_36 : decode cX7_told 36 = .ok (.getfield 50, 3) := by decide +kernel
theorem dX7_told_39 : decode cX7_told 39 = .ok (.iload_n 1, 1) := by decide +kernel
theorem dX7_told_40 : decode cX7_told 40 = .ok (.iaload, 1) := by decide +kernel
theorem dX7_told_41 : decode cX7_told 41 = .ok (.goto 23, 3) := by decide +kernel
theorem dX7_told_44 : decode cX7_told 44 = .ok (.iload_n 2, 1) := by decide +kernel
theorem dX7_told_45 : decode cX7_told 45 = .ok (.iconst 2, 1) := by decide +kernel
theorem dX7_told_46 : decode cX7_told 46 = .ok (.if_icmp .ne 12, 3) := by decide +kernel
theorem dX7_told_49 : decode cX7_told 49 = .ok (.aload_n 0, 1) := by decide +kernel
theorem dX7_told_50 : decode cX7_told 50 = .ok (.getfield 53, 3) := by decide +kernel
theorem dX7_told_53 : decode cX7_told 53 = .ok (.iload_n 1, 1) := by decide +kernel
theorem dX7_told_54 : decode cX7_told 54 = .ok (.iaload, 1) := by decide +kernel
theorem dX7_told_55 : decode cX7_told 55 = .ok (.goto 9, 3) := by decide +kernel
theorem dX7_told_58 : decode cX7_told 58 = .ok (.aload_n 0, 1) := by decide +kernel
theorem dX7_told_59 : decode cX7_told 59 = .ok (.getfield 56, 3) := by decide +kernel
theorem dX7_told_62 : decode cX7_told 62 = .ok (.iload_n 1, 1) := by decide +kernel
theorem dX7_told_63 : decode cX7_told 63 = .ok (.iaload, 1) := by decide +kernel
theorem dX7_told_64 : decode cX7_told 64 = .ok (.ireturn, 1) := by decide +kernel
theorem dX7_poured_0 : decode cX7_poured 0 = .ok (.iload_n 2, 1) := by decide +kernel
theorem dX7_poured_1 : decode cX7_poured 1 = .ok (.iconst 0, 1) := by decide +kernel
theorem dX7_poured_2 : decode cX7_poured 2 = .ok (.iconst 3, 1) := by decide +kernel
theorem dX7_poured_3 : decode cX7_poured 3 = .ok (.invokestatic 65, 3) := by decide +kernel
theorem dX7_poured_6 : decode cX7_poured 6 = .ok (.ifCond .ne 6, 3) := by decide +kernel
theorem dX7_poured_9 : decode cX7_poured 9 = .ok (.bipush (-2), 2) := by decide +kernel
theorem dX7_poured_11 : decode cX7_poured 11 = .ok (.ireturn, 1) := by decide +kernel
theorem dX7_poured_12 : decode cX7_poured 12 = .ok (.aload_n 0, 1) := by decide +kernel
theorem dX7_poured_13 : decode cX7_poured 13 = .ok (.invokevirtual 151, 3) := by decide +kernel
theorem dX7_poured_16 : decode cX7_poured 16 = .ok (.aload_n 0, 1) := by decide +kernel
theorem dX7_poured_17 : decode cX7_poured 17 = .ok (.iload_n 1, 1) := by decide +kernel
theorem dX7_poured_18 : decode cX7_poured 18 = .ok (.iload_n 2, 1) := by decide +kernel
theorem dX7_poured_19 : decode cX7_poured 19 = .ok (.invokevirtual 161, 3) := by decide +kernel
theorem dX7_poured_22 : decode cX7_poured 22 = .ok (.ireturn, 1) := by decide +kernel
theorem dX7_tree_0 : decode cX7_tree 0 = .ok (.iload_n 2, 1) := by decide +kernel
theorem dX7_tree_1 : decode cX7_tree 1 = .ok (.iconst 0, 1) := by decide +kernel
theorem dX7_tree_2 : decode cX7_tree 2 = .ok (.iconst 3, 1) := by decide +kernel
theorem dX7_tree_3 : decode cX7_tree 3 = .ok (.invokestatic 65, 3) := by decide +kernel
theorem dX7_tree_6 : decode cX7_tree 6 = .ok (.ifCond .ne 6, 3) := by decide +kernel
theorem dX7_tree_9 : decode cX7_tree 9 = .ok (.bipush (-2), 2) := by decide +kernel
theorem dX7_tree_11 : decode cX7_tree 11 = .ok (.ireturn, 1) := by decide +kernel
theorem dX7_tree_12 : decode cX7_tree 12 = .ok (.aload_n 0, 1) := by decide +kernel
theorem dX7_tree_13 : decode cX7_tree 13 = .ok (.iconst 0, 1) := by decide +kernel
theorem dX7_tree_14 : decode cX7_tree 14 = .ok (.bipush (-6), 2) := by decide +kernel
theorem dX7_tree_16 : decode cX7_tree 16 = .ok (.invokevirtual 147, 3) := by decide +kernel
theorem dX7_tree_19 : decode cX7_tree 19 = .ok (.aload_n 0, 1) := by decide +kernel
theorem dX7_tree_20 : decode cX7_tree 20 = .ok (.iload_n 1, 1) := by decide +kernel
theorem dX7_tree_21 : decode cX7_tree 21 = .ok (.iload_n 2, 1) := by decide +kernel
theorem dX7_tree_22 : decode cX7_tree 22 = .ok (.invokevirtual 161, 3) := by decide +kernel
theorem dX7_tree_25 : decode cX7_tree 25 = .ok (.ireturn, 1) := by decide +kernel
theorem dX7_over_0 : decode cX7_over 0 = .ok (.aload_n 0, 1) := by decide +kernel
theorem dX7_over_1 : decode cX7_over 1 = .ok (.iload_n 1, 1) := by decide +kernel
theorem dX7_over_2 : decode cX7_over 2 = .ok (.iload_n 2, 1) := by decide +kernel
theorem dX7_over_3 : decode cX7_over 3 = .ok (.invokevirtual 69, 3) := by decide +kernel
theorem dX7_over_6 : decode cX7_over 6 = .ok (.ifCond .eq 13, 3) := by decide +kernel
theorem dX7_over_9 : decode cX7_over 9 = .ok (.aload_n 0, 1) := by decide +kernel
theorem dX7_over_10 : decode cX7_over 10 = .ok (.iload_n 3, 1) := by decide +kernel
theorem dX7_over_11 : decode cX7_over 11 = .ok (.iload 4, 2) := by decide +kernel
theorem dX7_over_13 : decode cX7_over 13 = .ok (.invokevirtual 69, 3) := by decide +kernel
theorem dX7_over_16 : decode cX7_over 16 = .ok (.ifCond .ne 6, 3) := by decide +kernel
theorem dX7_over_19 : decode cX7_over 19 = .ok (.bipush (-2), 2) := by decide +kernel
theorem dX7_over_21 : decode cX7_over 21 = .ok (.ireturn, 1) := by decide +kernel
theorem dX7_over_22 : decode cX7_over 22 = .ok (.aload_n 0, 1) := by decide +kernel
theorem dX7_over_23 : decode cX7_over 23 = .ok (.iload_n 1, 1) := by decide +kernel
theorem dX7_over_24 : decode cX7_over 24 = .ok (.iload_n 2, 1) := by decide +kernel
theorem dX7_over_25 : decode cX7_over 25 = .ok (.invokevirtual 73, 3) := by decide +kernel
theorem dX7_over_28 : decode cX7_over 28 = .ok (.istore 5, 2) := by decide +kernel
theorem dX7_over_30 : decode cX7_over 30 = .ok (.aload_n 0, 1) := by decide +kernel
theorem dX7_over_31 : decode cX7_over 31 = .ok (.iload_n 3, 1) := by decide +kernel
theorem dX7_over_32 : decode cX7_over 32 = .ok (.iload 4, 2) := by decide +kernel
theorem dX7_over_34 : decode cX7_over 34 = .ok (.invokevirtual 73, 3) := by decide +kernel
theorem dX7_over_37 : decode cX7_over 37 = .ok (.istore 6, 2) := by decide +kernel
theorem dX7_over_39 : decode cX7_over 39 = .ok (.aload_n 0, 1) := by decide +kernel
theorem dX7_over_40 : decode cX7_over 40 = .ok (.getfield 7, 3) := by decide +kernel
theorem dX7_over_43 : decode cX7_over 43 = .ok (.iload 5, 2) := by decide +kernel
theorem dX7_over_45 : decode cX7_over 45 = .ok (.iaload, 1) := by decide +kernel
theorem dX7_over_46 : decode cX7_over 46 = .ok (.aload_n 0, 1) := by decide +kernel
theorem dX7_over_47 : decode cX7_over 47 = .ok (.getfield 7, 3) := by decide +kernel
theorem dX7_over_50 : decode cX7_over 50 = .ok (.iload 6, 2) := by decide +kernel
theorem dX7_over_52 : decode cX7_over 52 = .ok (.iaload, 1) := by decide +kernel
theorem dX7_over_53 : decode cX7_over 53 = .ok (.invokestatic 98, 3) := by decide +kernel
theorem dX7_over_56 : decode cX7_over 56 = .ok (.istore 7, 2) := by decide +kernel
theorem dX7_over_58 : decode cX7_over 58 = .ok (.aload_n 0, 1) := by decide +kernel
theorem dX7_over_59 : decode cX7_over 59 = .ok (.iload 5, 2) := by decide +kernel
theorem dX7_over_61 : decode cX7_over 61 = .ok (.iload 7, 2) := by decide +kernel
theorem dX7_over_63 : decode cX7_over 63 = .ok (.iconst 0, 1) := by decide +kernel
theorem dX7_over_64 : decode cX7_over 64 = .ok (.invokevirtual 84, 3) := by decide +kernel
theorem dX7_over_67 : decode cX7_over 67 = .ok (.pop, 1) := by decide +kernel
theorem dX7_over_68 : decode cX7_over 68 = .ok (.aload_n 0, 1) := by decide +kernel
theorem dX7_over_69 : decode cX7_over 69 = .ok (.getfield 26, 3) := by decide +kernel
theorem dX7_over_72 : decode cX7_over 72 = .ok (.iload 6, 2) := by decide +kernel
theorem dX7_over_74 : decode cX7_over 74 = .ok (.baload, 1) := by decide +kernel
theorem dX7_over_75 : decode cX7_over 75 = .ok (.ifCond .ne 19, 3) := by decide +kernel
theorem dX7_over_78 : decode cX7_over 78 = .ok (.iinc 7 1, 3) := by decide +kernel
theorem dX7_over_81 : decode cX7_over 81 = .ok (.aload_n 0, 1) := by decide +kernel
theorem dX7_over_82 : decode cX7_over 82 = .ok (.iload 5, 2) := by decide +kernel
theorem dX7_over_84 : decode cX7_over 84 = .ok (.iload 7, 2) := by decide +kernel
theorem dX7_over_86 : decode cX7_over 86 = .ok (.iconst 0, 1) := by decide +kernel
theorem dX7_over_87 : decode cX7_over 87 = .ok (.invokevirtual 84, 3) := by decide +kernel
theorem dX7_over_90 : decode cX7_over 90 = .ok (.pop, 1) := by decide +kernel
theorem dX7_over_91 : decode cX7_over 91 = .ok (.goto (-23), 3) := by decide +kernel
theorem dX7_over_94 : decode cX7_over 94 = .ok (.iload 7, 2) := by decide +kernel
theorem dX7_over_96 : decode cX7_over 96 = .ok (.ireturn, 1) := by decide +kernel
theorem dX7_wet_0 : decode cX7_wet 0 = .ok (.aload_n 0, 1) := by decide +kernel
theorem dX7_wet_1 : decode cX7_wet 1 = .ok (.iload_n 1, 1) := by decide +kernel
theorem dX7_wet_2 : decode cX7_wet 2 = .ok (.iload_n 2, 1) := by decide +kernel
theorem dX7_wet_3 : decode cX7_wet 3 = .ok (.invokevirtual 69, 3) := by decide +kernel
theorem dX7_wet_6 : decode cX7_wet 6 = .ok (.ifCond .eq 23, 3) := by decide +kernel
theorem dX7_wet_9 : decode cX7_wet 9 = .ok (.iload_n 3, 1) := by decide +kernel
theorem dX7_wet_10 : decode cX7_wet 10 = .ok (.iconst 0, 1) := by decide +kernel
theorem dX7_wet_11 : decode cX7_wet 11 = .ok (.bipush 99, 2) := by decide +kernel
theorem dX7_wet_13 : decode cX7_wet 13 = .ok (.invokestatic 65, 3) := by decide +kernel
theorem dX7_wet_16 : decode cX7_wet 16 = .ok (.ifCond .eq 13, 3) := by decide +kernel
theorem dX7_wet_19 : decode cX7_wet 19 = .ok (.iload 4, 2) := by decide +kernel
theorem dX7_wet_21 : decode cX7_wet 21 = .ok (.iconst 0, 1) := by decide +kernel
theorem dX7_wet_22 : decode cX7_wet 22 = .ok (.iconst 2, 1) := by decide +kernel
theorem dX7_wet_23 : decode cX7_wet 23 = .ok (.invokestatic 65, 3) := by decide +kernel
theorem dX7_wet_26 : decode cX7_wet 26 = .ok (.ifCond .ne 6, 3) := by decide +kernel
theorem dX7_wet_29 : decode cX7_wet 29 = .ok (.bipush (-2), 2) := by decide +kernel
theorem dX7_wet_31 : decode cX7_wet 31 = .ok (.ireturn, 1) := by decide +kernel
theorem dX7_wet_32 : decode cX7_wet 32 = .ok (.aload_n 0, 1) := by decide +kernel
theorem dX7_wet_33 : decode cX7_wet 33 = .ok (.iload_n 1, 1) := by decide +kernel
theorem dX7_wet_34 : decode cX7_wet 34 = .ok (.iload_n 2, 1) := by decide +kernel
theorem dX7_wet_35 : decode cX7_wet 35 = .ok (.invokevirtual 73, 3) := by decide +kernel
theorem dX7_wet_38 : decode cX7_wet 38 = .ok (.istore 5, 2) := by decide +kernel
theorem dX7_wet_40 : decode cX7_wet 40 = .ok (.aload_n 0, 1) := by decide +kernel
theorem dX7_wet_41 : decode cX7_wet 41 = .ok (.getfield 7, 3) := by decide +kernel
theorem dX7_wet_44 : decode cX7_wet 44 = .ok (.iload 5, 2) := by decide +kernel
theorem dX7_wet_46 : decode cX7_wet 46 = .ok (.iaload, 1) := by decide +kernel
theorem dX7_wet_47 : decode cX7_wet 47 = .ok (.iload_n 3, 1) := by decide +kernel
theorem dX7_wet_48 : decode cX7_wet 48 = .ok (.if_icmp .le 16, 3) := by decide +kernel
theorem dX7_wet_51 : decode cX7_wet 51 = .ok (.iload 4, 2) := by decide +kernel
theorem dX7_wet_53 : decode cX7_wet 53 = .ok (.iconst 2, 1) := by decide +kernel
theorem dX7_wet_54 : decode cX7_wet 54 = .ok (.if_icmp .ne 8, 3) := by decide +kernel
theorem dX7_wet_57 : decode cX7_wet 57 = .ok (.bipush (-6), 2) := by decide +kernel
theorem dX7_wet_59 : decode cX7_wet 59 = .ok (.goto 4, 3) := by decide +kernel
theorem dX7_wet_62 : decode cX7_wet 62 = .ok (.iconst 0, 1) := by decide +kernel
theorem dX7_wet_63 : decode cX7_wet 63 = .ok (.ireturn, 1) := by decide +kernel
theorem dX7_wet_64 : decode cX7_wet 64 = .ok (.aload_n 0, 1) := by decide +kernel
theorem dX7_wet_65 : decode cX7_wet 65 = .ok (.iload 5, 2) := by decide +kernel
theorem dX7_wet_67 : decode cX7_wet 67 = .ok (.iload_n 3, 1) := by decide +kernel
theorem dX7_wet_68 : decode cX7_wet 68 = .ok (.iconst 0, 1) := by decide +kernel
theorem dX7_wet_69 : decode cX7_wet 69 = .ok (.invokevirtual 84, 3) := by decide +kernel
theorem dX7_wet_72 : decode cX7_wet 72 = .ok (.istore 6, 2) := by decide +kernel
theorem dX7_wet_74 : decode cX7_wet 74 = .ok (.iload 4, 2) := by decide +kernel
theorem dX7_wet_76 : decode cX7_wet 76 = .ok (.iconst 2, 1) := by decide +kernel
theorem dX7_wet_77 : decode cX7_wet 77 = .ok (.if_icmp .ne 10, 3) := by decide +kernel
theorem dX7_wet_80 : decode cX7_wet 80 = .ok (.aload_n 0, 1) := by decide +kernel
theorem dX7_wet_81 : decode cX7_wet 81 = .ok (.iload 6, 2) := by decide +kernel
theorem dX7_wet_83 : decode cX7_wet 83 = .ok (.invokevirtual 88, 3) := by decide +kernel
theorem dX7_wet_86 : decode cX7_wet 86 = .ok (.ireturn, 1) := by decide +kernel
theorem dX7_wet_87 : decode cX7_wet 87 = .ok (.iconst 0, 1) := by decide +kernel
theorem dX7_wet_88 : decode cX7_wet 88 = .ok (.istore 7, 2) := by decide +kernel
theorem dX7_wet_90 : decode cX7_wet 90 = .ok (.iconst 0, 1) := by decide +kernel
theorem dX7_wet_91 : decode cX7_wet 91 = .ok (.istore 8, 2) := by decide +kernel
theorem dX7_wet_93 : decode cX7_wet 93 = .ok (.iload 8, 2) := by decide +kernel
theorem dX7_wet_95 : decode cX7_wet 95 = .ok (.iload 6, 2) := by decide +kernel
theorem dX7_wet_97 : decode cX7_wet 97 = .ok (.if_icmp .ge 28, 3) := by decide +kernel
theorem dX7_wet_100 : decode cX7_wet 100 = .ok (.iload 7, 2) := by decide +kernel
theorem dX7_wet_102 : decode cX7_wet 102 = .ok (.iload_n 3, 1) := by decide +kernel
theorem dX7_wet_103 : decode cX7_wet 103 = .ok (.aload_n 0, 1) := by decide +kernel
theorem dX7_wet_104 : decode cX7_wet 104 = .ok (.getfield 7, 3) := by decide +kernel
theorem dX7_wet_107 : decode cX7_wet 107 = .ok (.aload_n 0, 1) := by decide +kernel
theorem dX7_wet_108 : decode cX7_wet 108 = .ok (.getfield 23, 3) := by decide +kernel
theorem dX7_wet_111 : decode cX7_wet 111 = .ok (.iload 8, 2) := by decide +kernel
theorem dX7_wet_113 : decode cX7_wet 113 = .ok (.iaload, 1) := by decide +kernel
theorem dX7_wet_114 : decode cX7_wet 114 = .ok (.iaload, 1) := by decide +kernel
theorem dX7_wet_115 : decode cX7_wet 115 = .ok (.isub, 1) := by decide +kernel
theorem dX7_wet_116 : decode cX7_wet 116 = .ok (.iadd, 1) := by decide +kernel
theorem dX7_wet_117 : decode cX7_wet 117 = .ok (.istore 7, 2) := by decide +kernel
theorem dX7_wet_119 : decode cX7_wet 119 = .ok (.iinc 8 1, 3) := by decide +kernel
theorem dX7_wet_122 : decode cX7_wet 122 = .ok (.goto (-29), 3) := by decide +kernel
theorem dX7_wet_125 : decode cX7_wet 125 = .ok (.iload 4, 2) := by decide +kernel
theorem dX7_wet_127 : decode cX7_wet 127 = .ok (.ifCond .ne 8, 3) := by decide +kernel
theorem dX7_wet_130 : decode cX7_wet 130 = .ok (.iload 6, 2) := by decide +kernel
theorem dX7_wet_132 : decode cX7_wet 132 = .ok (.goto 5, 3) := by decide +kernel
theorem dX7_wet_135 : decode cX7_wet 135 = .ok (.iload 7, 2) := by decide +kernel
theorem dX7_wet_137 : decode cX7_wet 137 = .ok (.ireturn, 1) := by decide +kernel
theorem dX7_basins_0 : decode cX7_basins 0 = .ok (.iconst 0, 1) := by decide +kernel
theorem dX7_basins_1 : decode cX7_basins 1 = .ok (.istore_n 2, 1) := by decide +kernel
theorem dX7_basins_2 : decode cX7_basins 2 = .ok (.iconst 1, 1) := by decide +kernel
theorem dX7_basins_3 : decode cX7_basins 3 = .ok (.istore_n 3, 1) := by decide +kernel
theorem dX7_basins_4 : decode cX7_basins 4 = .ok (.iload_n 3, 1) := by decide +kernel
theorem dX7_basins_5 : decode cX7_basins 5 = .ok (.bipush 100, 2) := by decide +kernel
theorem dX7_basins_7 : decode cX7_basins 7 = .ok (.if_icmp .ge 26, 3) := by decide +kernel
theorem dX7_basins_10 : decode cX7_basins 10 = .ok (.iload_n 2, 1) := by decide +kernel
theorem dX7_basins_11 : decode cX7_basins 11 = .ok (.aload_n 0, 1) := by decide +kernel
theorem dX7_basins_12 : decode cX7_basins 12 = .ok (.aload_n 1, 1) := by decide +kernel
theorem dX7_basins_13 : decode cX7_basins 13 = .ok (.iload_n 3, 1) := by decide +kernel
theorem dX7_basins_14 : decode cX7_basins 14 = .ok (.invokevirtual 125, 3) := by decide +kernel
theorem dX7_basins_17 : decode cX7_basins 17 = .ok (.ifCond .le 7, 3) := by decide +kernel
theorem dX7_basins_20 : decode cX7_basins 20 = .ok (.iconst 1, 1) := by decide +kernel
theorem dX7_basins_21 : decode cX7_basins 21 = .ok (.goto 4, 3) := by decide +kernel
theorem dX7_basins_24 : decode cX7_basins 24 = .ok (.iconst 0, 1) := by decide +kernel
theorem dX7_basins_25 : decode cX7_basins 25 = .ok (.iadd, 1) := by decide +kernel
theorem dX7_basins_26 : decode cX7_basins 26 = .ok (.istore_n 2, 1) := by decide +kernel
theorem dX7_basins_27 : decode cX7_basins 27 = .ok (.iinc 3 1, 3) := by decide +kernel
theorem dX7_basins_30 : decode cX7_basins 30 = .ok (.goto (-26), 3) := by decide +kernel
theorem dX7_basins_33 : decode cX7_basins 33 = .ok (.iload_n 2, 1) := by decide +kernel
theorem dX7_basins_34 : decode cX7_basins 34 = .ok (.ireturn, 1) := by decide +kernel
theorem dX7_greatestLevel_0 : decode cX7_greatestLevel 0 = .ok (.bipush (-6), 2) := by decide +kernel
theorem dX7_greatestLevel_2 : decode cX7_greatestLevel 2 = .ok (.istore_n 1, 1) := by decide +kernel
theorem dX7_greatestLevel_3 : decode cX7_greatestLevel 3 = .ok (.iconst 0, 1) := by decide +kernel
theorem dX7_greatestLevel_4 : decode cX7_greatestLevel 4 = .ok (.istore_n 2, 1) := by decide +kernel
theorem dX7_greatestLevel_5 : decode cX7_greatestLevel 5 = .ok (.iload_n 2, 1) := by decide +kernel
theorem dX7_greatestLevel_6 : decode cX7_greatestLevel 6 = .ok (.aload_n 0, 1) := by decide +kernel
theorem dX7_greatestLevel_7 : decode cX7_greatestLevel 7 = .ok (.invokevirtual 80, 3) := by decide +kernel
theorem dX7_greatestLevel_10 : decode cX7_greatestLevel 10 = .ok (.if_icmp .ge 20, 3) := by decide +kernel
theorem dX7_greatestLevel_13 : decode cX7_greatestLevel 13 = .ok (.iload_n 1, 1) := by decide +kernel
theorem dX7_greatestLevel_14 : decode cX7_greatestLevel 14 = .ok (.aload_n 0, 1) := by decide +kernel
theorem dX7_greatestLevel_15 : decode cX7_greatestLevel 15 = .ok (.getfield 32, 3) := by decide +kernel
theorem dX7_greatestLevel_18 : decode cX7_greatestLevel 18 = .ok (.iload_n 2, 1) := by decide +kernel
theorem dX7_greatestLevel_19 : decode cX7_greatestLevel 19 = .ok (.iaload, 1) := by decide +kernel
theorem dX7_greatestLevel_20 : decode cX7_greatestLevel 20 = .ok (.invokestatic 98, 3) := by decide +kernel
theorem dX7_greatestLevel_23 : decode cX7_greatestLevel 23 = .ok (.istore_n 1, 1) := by decide +kernel
theorem dX7_greatestLevel_24 : decode cX7_greatestLevel 24 = .ok (.iinc 2 1, 3) := by decide +kernel
theorem dX7_greatestLevel_27 : decode cX7_greatestLevel 27 = .ok (.goto (-22), 3) := by decide +kernel
theorem dX7_greatestLevel_30 : decode cX7_greatestLevel 30 = .ok (.iload_n 1, 1) := by decide +kernel
theorem dX7_greatestLevel_31 : decode cX7_greatestLevel 31 = .ok (.ireturn, 1) := by decide +kernel
theorem dX7_treeSize_0 : decode cX7_treeSize 0 = .ok (.aload_n 0, 1) := by decide +kernel
theorem dX7_treeSize_1 : decode cX7_treeSize 1 = .ok (.iconst 0, 1) := by decide +kernel
theorem dX7_treeSize_2 : decode cX7_treeSize 2 = .ok (.bipush (-6), 2) := by decide +kernel
theorem dX7_treeSize_4 : decode cX7_treeSize 4 = .ok (.invokevirtual 147, 3) := by decide +kernel
theorem dX7_treeSize_7 : decode cX7_treeSize 7 = .ok (.aload_n 0, 1) := by decide +kernel
theorem dX7_treeSize_8 : decode cX7_treeSize 8 = .ok (.getfield 134, 3) := by decide +kernel
theorem dX7_treeSize_11 : decode cX7_treeSize 11 = .ok (.ireturn, 1) := by decide +kernel
theorem dX7_marked_0 : decode cX7_marked 0 = .ok (.iconst 0, 1) := by decide +kernel
theorem dX7_marked_1 : decode cX7_marked 1 = .ok (.istore_n 1, 1) := by decide +kernel
theorem dX7_marked_2 : decode cX7_marked 2 = .ok (.iconst 0, 1) := by decide +kernel
theorem dX7_marked_3 : decode cX7_marked 3 = .ok (.istore_n 2, 1) := by decide +kernel
theorem dX7_marked_4 : decode cX7_marked 4 = .ok (.iload_n 2, 1) := by decide +kernel
theorem dX7_marked_5 : decode cX7_marked 5 = .ok (.aload_n 0, 1) := by decide +kernel
theorem dX7_marked_6 : decode cX7_marked 6 = .ok (.invokevirtual 80, 3) := by decide +kernel
theorem dX7_marked_9 : decode cX7_marked 9 = .ok (.if_icmp .ge 30, 3) := by decide +kernel
theorem dX7_marked_12 : decode cX7_marked 12 = .ok (.iload_n 1, 1) := by decide +kernel
theorem dX7_marked_13 : decode cX7_marked 13 = .ok (.aload_n 0, 1) := by decide +kernel
theorem dX7_marked_14 : decode cX7_marked 14 = .ok (.getfield 7, 3) := by decide +kernel
theorem dX7_marked_17 : decode cX7_marked 17 = .ok (.sipush 144, 3) := by decide +kernel
theorem dX7_marked_20 : decode cX7_marked 20 = .ok (.iload_n 2, 1) := by decide +kernel
theorem dX7_marked_21 : decode cX7_marked 21 = .ok (.iadd, 1) := by decide +kernel
theorem dX7_marked_22 : decode cX7_marked 22 = .ok (.iaload, 1) := by decide +kernel
theorem dX7_marked_23 : decode cX7_marked 23 = .ok (.ifCond .le 7, 3) := by decide +kernel
theorem dX7_marked_26 : decode cX7_marked 26 = .ok (.iconst 1, 1) := by decide +kernel
theorem dX7_marked_27 : decode cX7_marked 27 = .ok (.goto 4, 3) := by decide +kernel
theorem dX7_marked_30 : decode cX7_marked 30 = .ok (.iconst 0, 1) := by decide +kernel
theorem dX7_marked_31 : decode cX7_marked 31 = .ok (.iadd, 1) := by decide +kernel
theorem dX7_marked_32 : decode cX7_marked 32 = .ok (.istore_n 1, 1) := by decide +kernel
theorem dX7_marked_33 : decode cX7_marked 33 = .ok (.iinc 2 1, 3) := by decide +kernel
theorem dX7_marked_36 : decode cX7_marked 36 = .ok (.goto (-32), 3) := by decide +kernel
theorem dX7_marked_39 : decode cX7_marked 39 = .ok (.iload_n 1, 1) := by decide +kernel
theorem dX7_marked_40 : decode cX7_marked 40 = .ok (.ireturn, 1) := by decide +kernel
theorem dX7_count_0 : decode cX7_count 0 = .ok (.aload_n 0, 1) := by decide +kernel
theorem dX7_count_1 : decode cX7_count 1 = .ok (.invokevirtual 151, 3) := by decide +kernel
theorem dX7_count_4 : decode cX7_count 4 = .ok (.iload_n 1, 1) := by decide +kernel
theorem dX7_count_5 : decode cX7_count 5 = .ok (.tableswitch 191 0 12 #[67, 76, 85, 90, 95, 104, 113, 123, 133, 138, 147, 156, 161], 67) := by decide +kernel
theorem dX7_count_72 : decode cX7_count 72 = .ok (.aload_n 0, 1) := by decide +kernel
theorem dX7_count_73 : decode cX7_count 73 = .ok (.getfield 7, 3) := by decide +kernel
theorem dX7_count_76 : decode cX7_count 76 = .ok (.sipush 288, 3) := by decide +kernel
theorem dX7_count_79 : decode cX7_count 79 = .ok (.iaload, 1) := by decide +kernel
theorem dX7_count_80 : decode cX7_count 80 = .ok (.ireturn, 1) := by decide +kernel
theorem dX7_count_81 : decode cX7_count 81 = .ok (.aload_n 0, 1) := by decide +kernel
theorem dX7_count_82 : decode cX7_count 82 = .ok (.getfield 7, 3) := by decide +kernel
theorem dX7_count_85 : decode cX7_count 85 = .ok (.sipush 289, 3) := by decide +kernel
theorem dX7_count_88 : decode cX7_count 88 = .ok (.iaload, 1) := by decide +kernel
theorem dX7_count_89 : decode cX7_count 89 = .ok (.ireturn, 1) := by decide +kernel
theorem dX7_count_90 : decode cX7_count 90 = .ok (.aload_n 0, 1) := by decide +kernel
theorem dX7_count_91 : decode cX7_count 91 = .ok (.invokevirtual 92, 3) := by decide +kernel
theorem dX7_count_94 : decode cX7_count 94 = .ok (.ireturn, 1) := by decide +kernel
theorem dX7_count_95 : decode cX7_count 95 = .ok (.aload_n 0, 1) := by decide +kernel
theorem dX7_count_96 : decode cX7_count 96 = .ok (.invokevirtual 164, 3) := by decide +kernel
theorem dX7_count_99 : decode cX7_count 99 = .ok (.ireturn, 1) := by decide +kernel
theorem dX7_count_100 : decode cX7_count 100 = .ok (.aload_n 0, 1) := by decide +kernel
theorem dX7_count_101 : decode cX7_count 101 = .ok (.aload_n 0, 1) := by decide +kernel
theorem dX7_count_102 : decode cX7_count 102 = .ok (.getfield 29, 3) := by decide +kernel
theorem dX7_count_105 : decode cX7_count 105 = .ok (.invokevirtual 167, 3) := by decide +kernel
theorem dX7_count_108 : decode cX7_count 108 = .ok (.ireturn, 1) := by decide +kernel
theorem dX7_count_109 : decode cX7_count 109 = .ok (.aload_n 0, 1) := by decide +kernel
theorem dX7_count_110 : decode cX7_count 110 = .ok (.aload_n 0, 1) := by decide +kernel
theorem dX7_count_111 : decode cX7_count 111 = .ok (.getfield 44, 3) := by decide +kernel
theorem dX7_count_114 : decode cX7_count 114 = .ok (.invokevirtual 167, 3) := by decide +kernel
theorem dX7_count_117 : decode cX7_count 117 = .ok (.ireturn, 1) := by decide +kernel
theorem dX7_count_118 : decode cX7_count 118 = .ok (.aload_n 0, 1) := by decide +kernel
theorem dX7_count_119 : decode cX7_count 119 = .ok (.aload_n 0, 1) := by decide +kernel
theorem dX7_count_120 : decode cX7_count 120 = .ok (.getfield 29, 3) := by decide +kernel
theorem dX7_count_123 : decode cX7_count 123 = .ok (.iconst 0, 1) := by decide +kernel
theorem dX7_count_124 : decode cX7_count 124 = .ok (.invokevirtual 125, 3) := by decide +kernel
theorem dX7_count_127 : decode cX7_count 127 = .ok (.ireturn, 1) := by decide +kernel
theorem dX7_count_128 : decode cX7_count 128 = .ok (.aload_n 0, 1) := by decide +kernel
theorem dX7_count_129 : decode cX7_count 129 = .ok (.aload_n 0, 1) := by decide +kernel
theorem dX7_count_130 : decode cX7_count 130 = .ok (.getfield 44, 3) := by decide +kernel
theorem dX7_count_133 : decode cX7_count 133 = .ok (.iconst 0, 1) := by decide +kernel
theorem dX7_count_134 : decode cX7_count 134 = .ok (.invokevirtual 125, 3) := by decide +kernel
theorem dX7_count_137 : decode cX7_count 137 = .ok (.ireturn, 1) := by decide +kernel
theorem dX7_count_138 : decode cX7_count 138 = .ok (.aload_n 0, 1) := by decide +kernel
theorem dX7_count_139 : decode cX7_count 139 = .ok (.invokevirtual 171, 3) := by decide +kernel
theorem dX7_count_142 : decode cX7_count 142 = .ok (.ireturn, 1) := by decide +kernel
theorem dX7_count_143 : decode cX7_count 143 = .ok (.aload_n 0, 1) := by decide +kernel
theorem dX7_count_144 : decode cX7_count 144 = .ok (.getfield 7, 3) := by decide +kernel
theorem dX7_count_147 : decode cX7_count 147 = .ok (.sipush 290, 3) := by decide +kernel
theorem dX7_count_150 : decode cX7_count 150 = .ok (.iaload, 1) := by decide +kernel
theorem dX7_count_151 : decode cX7_count 151 = .ok (.ireturn, 1) := by decide +kernel
theorem dX7_count_152 : decode cX7_count 152 = .ok (.aload_n 0, 1) := by decide +kernel
theorem dX7_count_153 : decode cX7_count 153 = .ok (.getfield 7, 3) := by decide +kernel
theorem dX7_count_156 : decode cX7_count 156 = .ok (.sipush 291, 3) := by decide +kernel
theorem dX7_count_159 : decode cX7_count 159 = .ok (.iaload, 1) := by decide +kernel
theorem dX7_count_160 : decode cX7_count 160 = .ok (.ireturn, 1) := by decide +kernel
theorem dX7_count_161 : decode cX7_count 161 = .ok (.aload_n 0, 1) := by decide +kernel
theorem dX7_count_162 : decode cX7_count 162 = .ok (.invokevirtual 174, 3) := by decide +kernel
theorem dX7_count_165 : decode cX7_count 165 = .ok (.ireturn, 1) := by decide +kernel
theorem dX7_count_166 : decode cX7_count 166 = .ok (.aload_n 0, 1) := by decide +kernel
theorem dX7_count_167 : decode cX7_count 167 = .ok (.getfield 16, 3) := by decide +kernel
theorem dX7_count_170 : decode cX7_count 170 = .ok (.iconst 0, 1) := by decide +kernel
theorem dX7_count_171 : decode cX7_count 171 = .ok (.baload, 1) := by decide +kernel
theorem dX7_count_172 : decode cX7_count 172 = .ok (.ifCond .eq 7, 3) := by decide +kernel
theorem dX7_count_175 : decode cX7_count 175 = .ok (.iconst 1, 1) := by decide +kernel
theorem dX7_count_176 : decode cX7_count 176 = .ok (.goto 4, 3) := by decide +kernel
theorem dX7_count_179 : decode cX7_count 179 = .ok (.iconst 0, 1) := by decide +kernel
theorem dX7_count_180 : decode cX7_count 180 = .ok (.aload_n 0, 1) := by decide +kernel
theorem dX7_count_181 : decode cX7_count 181 = .ok (.getfield 16, 3) := by decide +kernel
theorem dX7_count_184 : decode cX7_count 184 = .ok (.iconst 1, 1) := by decide +kernel
theorem dX7_count_185 : decode cX7_count 185 = .ok (.baload, 1) := by decide +kernel
theorem dX7_count_186 : decode cX7_count 186 = .ok (.ifCond .eq 7, 3) := by decide +kernel
theorem dX7_count_189 : decode cX7_count 189 = .ok (.iconst 2, 1) := by decide +kernel
theorem dX7_count_190 : decode cX7_count 190 = .ok (.goto 4, 3) := by decide +kernel
theorem dX7_count_193 : decode cX7_count 193 = .ok (.iconst 0, 1) := by decide +kernel
theorem dX7_count_194 : decode cX7_count 194 = .ok (.iadd, 1) := by decide +kernel
theorem dX7_count_195 : decode cX7_count 195 = .ok (.ireturn, 1) := by decide +kernel
theorem dX7_count_196 : decode cX7_count 196 = .ok (.bipush (-2), 2) := by decide +kernel
theorem dX7_count_198 : decode cX7_count 198 = .ok (.ireturn, 1) := by decide +kernel
theorem dX7_image_0 : decode cX7_image 0 = .ok (.iload_n 1, 1) := by decide +kernel
theorem dX7_image_1 : decode cX7_image 1 = .ok (.iconst 0, 1) := by decide +kernel
theorem dX7_image_2 : decode cX7_image 2 = .ok (.iconst 1, 1) := by decide +kernel
theorem dX7_image_3 : decode cX7_image 3 = .ok (.invokestatic 65, 3) := by decide +kernel
theorem dX7_image_6 : decode cX7_image 6 = .ok (.ifCond .ne 6, 3) := by decide +kernel
theorem dX7_image_9 : decode cX7_image 9 = .ok (.bipush (-2), 2) := by decide +kernel
theorem dX7_image_11 : decode cX7_image 11 = .ok (.ireturn, 1) := by decide +kernel
theorem dX7_image_12 : decode cX7_image 12 = .ok (.iconst 0, 1) := by decide +kernel
theorem dX7_image_13 : decode cX7_image 13 = .ok (.istore_n 2, 1) := by decide +kernel
theorem dX7_image_14 : decode cX7_image 14 = .ok (.iload_n 2, 1) := by decide +kernel
theorem dX7_image_15 : decode cX7_image 15 = .ok (.sipush 292, 3) := by decide +kernel
theorem dX7_image_18 : decode cX7_image 18 = .ok (.if_icmp .ge 27, 3) := by decide +kernel
theorem dX7_image_21 : decode cX7_image 21 = .ok (.aload_n 0, 1) := by decide +kernel
theorem dX7_image_22 : decode cX7_image 22 = .ok (.getfield 13, 3) := by decide +kernel
theorem dX7_image_25 : decode cX7_image 25 = .ok (.sipush 292, 3) := by decide +kernel
theorem dX7_image_28 : decode cX7_image 28 = .ok (.iload_n 1, 1) := by decide +kernel
theorem dX7_image_29 : decode cX7_image 29 = .ok (.imul, 1) := by decide +kernel
theorem dX7_image_30 : decode cX7_image 30 = .ok (.iload_n 2, 1) := by decide +kernel
theorem dX7_image_31 : decode cX7_image 31 = .ok (.iadd, 1) := by decide +kernel
theorem dX7_image_32 : decode cX7_image 32 = .ok (.aload_n 0, 1) := by decide +kernel
theorem dX7_image_33 : decode cX7_image 33 = .ok (.getfield 7, 3) := by decide +kernel
theorem dX7_image_36 : decode cX7_image 36 = .ok (.iload_n 2, 1) := by decide +kernel
theorem dX7_image_37 : decode cX7_image 37 = .ok (.iaload, 1) := by decide +kernel
theorem dX7_image_38 : decode cX7_image 38 = .ok (.iastore, 1) := by decide +kernel
theorem dX7_image_39 : decode cX7_image 39 = .ok (.iinc 2 1, 3) := by decide +kernel
theorem dX7_image_42 : decode cX7_image 42 = .ok (.goto (-28), 3) := by decide +kernel
theorem dX7_image_45 : decode cX7_image 45 = .ok (.aload_n 0, 1) := by decide +kernel
theorem dX7_image_46 : decode cX7_image 46 = .ok (.getfield 16, 3) := by decide +kernel
theorem dX7_image_49 : decode cX7_image 49 = .ok (.iload_n 1, 1) := by decide +kernel
theorem dX7_image_50 : decode cX7_image 50 = .ok (.iconst 1, 1) := by decide +kernel
theorem dX7_image_51 : decode cX7_image 51 = .ok (.bastore, 1) := by decide +kernel
theorem dX7_image_52 : decode cX7_image 52 = .ok (.iconst 1, 1) := by decide +kernel
theorem dX7_image_53 : decode cX7_image 53 = .ok (.ireturn, 1) := by decide +kernel
theorem dX7_restore_0 : decode cX7_restore 0 = .ok (.iload_n 1, 1) := by decide +kernel
theorem dX7_restore_1 : decode cX7_restore 1 = .ok (.iconst 0, 1) := by decide +kernel
theorem dX7_restore_2 : decode cX7_restore 2 = .ok (.iconst 1, 1) := by decide +kernel
theorem dX7_restore_3 : decode cX7_restore 3 = .ok (.invokestatic 65, 3) := by decide +kernel
theorem dX7_restore_6 : decode cX7_restore 6 = .ok (.ifCond .ne 6, 3) := by decide +kernel
theorem dX7_restore_9 : decode cX7_restore 9 = .ok (.bipush (-2), 2) := by decide +kernel
theorem dX7_restore_11 : decode cX7_restore 11 = .ok (.ireturn, 1) := by decide +kernel
theorem dX7_restore_12 : decode cX7_restore 12 = .ok (.aload_n 0, 1) := by decide +kernel
theorem dX7_restore_13 : decode cX7_restore 13 = .ok (.getfield 16, 3) := by decide +kernel
theorem dX7_restore_16 : decode cX7_restore 16 = .ok (.iload_n 1, 1) := by decide +kernel
theorem dX7_restore_17 : decode cX7_restore 17 = .ok (.baload, 1) := by decide +kernel
theorem dX7_restore_18 : decode cX7_restore 18 = .ok (.ifCond .ne 6, 3) := by decide +kernel
theorem dX7_restore_21 : decode cX7_restore 21 = .ok (.bipush (-3), 2) := by decide +kernel
theorem dX7_restore_23 : decode cX7_restore 23 = .ok (.ireturn, 1) := by decide +kernel
theorem dX7_restore_24 : decode cX7_restore 24 = .ok (.iconst 0, 1) := by decide +kernel
theorem dX7_restore_25 : decode cX7_restore 25 = .ok (.istore_n 2, 1) := by decide +kernel
theorem dX7_restore_26 : decode cX7_restore 26 = .ok (.iload_n 2, 1) := by decide +kernel
theorem dX7_restore_27 : decode cX7_restore 27 = .ok (.sipush 292, 3) := by decide +kernel
theorem dX7_restore_30 : decode cX7_restore 30 = .ok (.if_icmp .ge 27, 3) := by decide +kernel
theorem dX7_restore_33 : decode cX7_restore 33 = .ok (.aload_n 0, 1) := by decide +kernel
theorem dX7_restore_34 : decode cX7_restore 34 = .ok (.getfield 7, 3) := by decide +kernel
theorem dX7_restore_37 : decode cX7_restore 37 = .ok (.iload_n 2, 1) := by decide +kernel
theorem dX7_restore_38 : decode cX7_restore 38 = .ok (.aload_n 0, 1) := by decide +kernel
theorem dX7_restore_39 : decode cX7_restore 39 = .ok (.getfield 13, 3) := by decide +kernel
theorem dX7_restore_42 : decode cX7_restore 42 = .ok (.sipush 292, 3) := by decide +kernel
theorem dX7_restore_45 : decode cX7_restore 45 = .ok (.iload_n 1, 1) := by decide +kernel
theorem dX7_restore_46 : decode cX7_restore 46 = .ok (.imul, 1) := by decide +kernel
theorem dX7_restore_47 : decode cX7_restore 47 = .ok (.iload_n 2, 1) := by decide +kernel
theorem dX7_restore_48 : decode cX7_restore 48 = .ok (.iadd, 1) := by decide +kernel
theorem dX7_restore_49 : decode cX7_restore 49 = .ok (.iaload, 1) := by decide +kernel
theorem dX7_restore_50 : decode cX7_restore 50 = .ok (.iastore, 1) := by decide +kernel
theorem dX7_restore_51 : decode cX7_restore 51 = .ok (.iinc 2 1, 3) := by decide +kernel
theorem dX7_restore_54 : decode cX7_restore 54 = .ok (.goto (-28), 3) := by decide +kernel
theorem dX7_restore_57 : decode cX7_restore 57 = .ok (.iconst 1, 1) := by decide +kernel
theorem dX7_restore_58 : decode cX7_restore 58 = .ok (.ireturn, 1) := by decide +kernel
