theorem dX8_init_0 : decode cX8_init 0 = .ok (.aload_n 0, 1) := by decide +kernel
theorem dX8_init_1 : decode cX8_init 1 = .ok (.invokespecial 1, 3) := by decide +kernel
theorem dX8_init_4 : decode cX8_init 4 = .ok (.aload_n 0, 1) := by decide +kernel
theorem dX8_init_5 : decode cX8_init 5 = .ok (.sipush 171, 3) := by decide +kernel
theorem dX8_init_8 : decode cX8_init 8 = .ok (.newarray .int, 2) := by decide +kernel
theorem dX8_init_10 : decode cX8_init 10 = .ok (.putfield 7, 3) := by decide +kernel
theorem dX8_init_13 : decode cX8_init 13 = .ok (.aload_n 0, 1) := by decide +kernel
theorem dX8_init_14 : decode cX8_init 14 = .ok (.sipush 342, 3) := by decide +kernel
theorem dX8_init_17 : decode cX8_init 17 = .ok (.newarray .int, 2) := by decide +kernel
theorem dX8_init_19 : decode cX8_init 19 = .ok (.putfield 13, 3) := by decide +kernel
theorem dX8_init_22 : decode cX8_init 22 = .ok (.aload_n 0, 1) := by decide +kernel
theorem dX8_init_23 : decode cX8_init 23 = .ok (.iconst 2, 1) := by decide +kernel
theorem dX8_init_24 : decode cX8_init 24 = .ok (.newarray .boolean, 2) := by decide +kernel
theorem dX8_init_26 : decode cX8_init 26 = .ok (.putfield 16, 3) := by decide +kernel
theorem dX8_init_29 : decode cX8_init 29 = .ok (.aload_n 0, 1) := by decide +kernel
theorem dX8_init_30 : decode cX8_init 30 = .ok (.iconst 3, 1) := by decide +kernel
theorem dX8_init_31 : decode cX8_init 31 = .ok (.newarray .int, 2) := by decide +kernel
theorem dX8_init_33 : decode cX8_init 33 = .ok (.putfield 20, 3) := by decide +kernel
theorem dX8_init_36 : decode cX8_init 36 = .ok (.aload_n 0, 1) := by decide +kernel
theorem dX8_init_37 : decode cX8_init 37 = .ok (.bipush 12, 2) := by decide +kernel
theorem dX8_init_39 : decode cX8_init 39 = .ok (.newarray .int, 2) := by decide +kernel
theorem dX8_init_41 : decode cX8_init 41 = .ok (.putfield 23, 3) := by decide +kernel
theorem dX8_init_44 : decode cX8_init 44 = .ok (.aload_n 0, 1) := by decide +kernel
theorem dX8_init_45 : decode cX8_init 45 = .ok (.sipush 200, 3) := by decide +kernel
theorem dX8_init_48 : decode cX8_init 48 = .ok (.newarray .int, 2) := by decide +kernel
theorem dX8_init_50 : decode cX8_init 50 = .ok (.putfield 26, 3) := by decide +kernel
theorem dX8_init_53 : decode cX8_init 53 = .ok (.aload_n 0, 1) := by decide +kernel
theorem dX8_init_54 : decode cX8_init 54 = .ok (.bipush 24, 2) := by decide +kernel
theorem dX8_init_56 : decode cX8_init 56 = .ok (.newarray .int, 2) := by decide +kernel
theorem dX8_init_58 : decode cX8_init 58 = .ok (.putfield 29, 3) := by decide +kernel
theorem dX8_init_61 : decode cX8_init 61 = .ok (.aload_n 0, 1) := by decide +kernel
theorem dX8_init_62 : decode cX8_init 62 = .ok (.bipush 20, 2) := by decide +kernel
theorem dX8_init_64 : decode cX8_init 64 = .ok (.newarray .int, 2) := by decide +kernel
theorem dX8_init_66 : decode cX8_init 66 = .ok (.putfield 32, 3) := by decide +kernel
theorem dX8_init_69 : decode cX8_init 69 = .ok (.aload_n 0, 1) := by decide +kernel
theorem dX8_init_70 : decode cX8_init 70 = .ok (.bipush 6, 2) := by decide +kernel
theorem dX8_init_72 : decode cX8_init 72 = .ok (.newarray .int, 2) := by decide +kernel
theorem dX8_init_74 : decode cX8_init 74 = .ok (.putfield 35, 3) := by decide +kernel
theorem dX8_init_77 : decode cX8_init 77 = .ok (.aload_n 0, 1) := by decide +kernel
theorem dX8_init_78 : decode cX8_init 78 = .ok (.bipush 12, 2) := by decide +kernel
theorem dX8_init_80 : decode cX8_init 80 = .ok (.newarray .int, 2) := by decide +kernel
theorem dX8_init_82 : decode cX8_init 82 = .ok (.putfield 38, 3) := by decide +kernel
theorem dX8_init_85 : decode cX8_init 85 = .ok (.aload_n 0, 1) := by decide +kernel
theorem dX8_init_86 : decode cX8_init 86 = .ok (.bipush 12, 2) := by decide +kernel
theorem dX8_init_88 : decode cX8_init 88 = .ok (.newarray .int, 2) := by decide +kernel
theorem dX8_init_90 : decode cX8_init 90 = .ok (.putfield 41, 3) := by decide +kernel
theorem dX8_init_93 : decode cX8_init 93 = .ok (.aload_n 0, 1) := by decide +kernel
theorem dX8_init_94 : decode cX8_init 94 = .ok (.bipush 8, 2) := by decide +kernel
theorem dX8_init_96 : decode cX8_init 96 = .ok (.newarray .int, 2) := by decide +kernel
theorem dX8_init_98 : decode cX8_init 98 = .ok (.putfield 44, 3) := by decide +kernel
theorem dX8_init_101 : decode cX8_init 101 = .ok (.aload_n 0, 1) := by decide +kernel
theorem dX8_init_102 : decode cX8_init 102 = .ok (.bipush 8, 2) := by decide +kernel
theorem dX8_init_104 : decode cX8_init 104 = .ok (.newarray .long, 2) := by decide +kernel
theorem dX8_init_106 : decode cX8_init 106 = .ok (.putfield 47, 3) := by decide +kernel
theorem dX8_init_109 : decode cX8_init 109 = .ok (.aload_n 0, 1) := by decide +kernel
theorem dX8_init_110 : decode cX8_init 110 = .ok (.bipush 8, 2) := by decide +kernel
theorem dX8_init_112 : decode cX8_init 112 = .ok (.newarray .int, 2) := by decide +kernel
theorem dX8_init_114 : decode cX8_init 114 = .ok (.putfield 51, 3) := by decide +kernel
theorem dX8_init_117 : decode cX8_init 117 = .ok (.aload_n 0, 1) := by decide +kernel
theorem dX8_init_118 : decode cX8_init 118 = .ok (.getfield 7, 3) := by decide +kernel
theorem dX8_init_121 : decode cX8_init 121 = .ok (.sipush 169, 3) := by decide +kernel
theorem dX8_init_124 : decode cX8_init 124 = .ok (.iconst 1, 1) := by decide +kernel
theorem dX8_init_125 : decode cX8_init 125 = .ok (.iastore, 1) := by decide +kernel
theorem dX8_init_126 : decode cX8_init 126 = .ok (.aload_n 0, 1) := by decide +kernel
theorem dX8_init_127 : decode cX8_init 127 = .ok (.getfield 20, 3) := by decide +kernel
theorem dX8_init_130 : decode cX8_init 130 = .ok (.iconst 0, 1) := by decide +kernel
theorem dX8_init_131 : decode cX8_init 131 = .ok (.iconst 2, 1) := by decide +kernel
theorem dX8_init_132 : decode cX8_init 132 = .ok (.iastore, 1) := by decide +kernel
theorem dX8_init_133 : decode cX8_init 133 = .ok (.aload_n 0, 1) := by decide +kernel
theorem dX8_init_134 : decode cX8_init 134 = .ok (.getfield 20, 3) := by decide +kernel
theorem dX8_init_137 : decode cX8_init 137 = .ok (.iconst 1, 1) := by decide +kernel
theorem dX8_init_138 : decode cX8_init 138 = .ok (.iconst 3, 1) := by decide +kernel
theorem dX8_init_139 : decode cX8_init 139 = .ok (.iastore, 1) := by decide +kernel
theorem dX8_init_140 : decode cX8_init 140 = .ok (.aload_n 0, 1) := by decide +kernel
theorem dX8_init_141 : decode cX8_init 141 = .ok (.getfield 20, 3) := by decide +kernel
theorem dX8_init_144 : decode cX8_init 144 = .ok (.iconst 2, 1) := by decide +kernel
theorem dX8_init_145 : decode cX8_init 145 = .ok (.bipush 10, 2) := by decide +kernel
theorem dX8_init_147 : decode cX8_init 147 = .ok (.iastore, 1) := by decide +kernel
theorem dX8_init_148 : decode cX8_init 148 = .ok (.aload_n 0, 1) := by decide +kernel
theorem dX8_init_149 : decode cX8_init 149 = .ok (.invokevirtual 54, 3) := by decide +kernel
theorem dX8_init_152 : decode cX8_init 152 = .ok (.iconst 0, 1) := by decide +kernel
theorem dX8_init_153 : decode cX8_init 153 = .ok (.istore_n 1, 1) := by decide +kernel
theorem dX8_init_154 : decode cX8_init 154 = .ok (.iload_n 1, 1) := by decide +kernel
theorem dX8_init_155 : decode cX8_init 155 = .ok (.bipush 6, 2) := by decide +kernel
theorem dX8_init_157 : decode cX8_init 157 = .ok (.if_icmp .ge 24, 3) := by decide +kernel
theorem dX8_init_160 : decode cX8_init 160 = .ok (.aload_n 0, 1) := by decide +kernel
theorem dX8_init_161 : decode cX8_init 161 = .ok (.getfield 23, 3) := by decide +kernel
theorem dX8_init_164 : decode cX8_init 164 = .ok (.iload_n 1, 1) := by decide +kernel
theorem dX8_init_165 : decode cX8_init 165 = .ok (.aload_n 0, 1) := by decide +kernel
theorem dX8_init_166 : decode cX8_init 166 = .ok (.getfield 23, 3) := by decide +kernel
theorem dX8_init_169 : decode cX8_init 169 = .ok (.bipush 6, 2) := by decide +kernel
theorem dX8_init_171 : decode cX8_init 171 = .ok (.iload_n 1, 1) := by decide +kernel
theorem dX8_init_172 : decode cX8_init 172 = .ok (.iadd, 1) := by decide +kernel
theorem dX8_init_173 : decode cX8_init 173 = .ok (.iaload, 1) := by decide +kernel
theorem dX8_init_174 : decode cX8_init 174 = .ok (.iastore, 1) := by decide +kernel
theorem dX8_init_175 : decode cX8_init 175 = .ok (.iinc 1 1, 3) := by decide +kernel
theorem dX8_init_178 : decode cX8_init 178 = .ok (.goto (-24), 3) := by decide +kernel
theorem dX8_init_181 : decode cX8_init 181 = .ok (.aload_n 0, 1) := by decide +kernel
theorem dX8_init_182 : decode cX8_init 182 = .ok (.getfield 35, 3) := by decide +kernel
theorem dX8_init_185 : decode cX8_init 185 = .ok (.iconst 0, 1) := by decide +kernel
theorem dX8_init_186 : decode cX8_init 186 = .ok (.iconst 1, 1) := by decide +kernel
theorem dX8_init_187 : decode cX8_init 187 = .ok (.iastore, 1) := by decide +kernel
theorem dX8_init_188 : decode cX8_init 188 = .ok (.aload_n 0, 1) := by decide +kernel
theorem dX8_init_189 : decode cX8_init 189 = .ok (.getfield 35, 3) := by decide +kernel
theorem dX8_init_192 : decode cX8_init 192 = .ok (.iconst 5, 1) := by decide +kernel
theorem dX8_init_193 : decode cX8_init 193 = .ok (.iconst 1, 1) := by decide +kernel
theorem dX8_init_194 : decode cX8_init 194 = .ok (.iastore, 1) := by decide +kernel
theorem dX8_init_195 : decode cX8_init 195 = .ok (.return_, 1) := by decide +kernel
theorem dX8_in_0 : decode cX8_in 0 = .ok (.iload_n 0, 1) := by decide +kernel
theorem dX8_in_1 : decode cX8_in 1 = .ok (.iload_n 1, 1) := by decide +kernel
theorem dX8_in_2 : decode cX8_in 2 = .ok (.if_icmp .lt 12, 3) := by decide +kernel
theorem dX8_in_5 : decode cX8_in 5 = .ok (.iload_n 0, 1) := by decide +kernel
theorem dX8_in_6 : decode cX8_in 6 = .ok (.iload_n 2, 1) := by decide +kernel
theorem dX8_in_7 : decode cX8_in 7 = .ok (.if_icmp .gt 7, 3) := by decide +kernel
theorem dX8_in_10 : decode cX8_in 10 = .ok (.iconst 1, 1) := by decide +kernel
theorem dX8_in_11 : decode cX8_in 11 = .ok (.goto 4, 3) := by decide +kernel
theorem dX8_in_14 : decode cX8_in 14 = .ok (.iconst 0, 1) := by decide +kernel
theorem dX8_in_15 : decode cX8_in 15 = .ok (.ireturn, 1) := by decide +kernel
theorem dX8_within_0 : decode cX8_within 0 = .ok (.iload_n 0, 1) := by decide +kernel
theorem dX8_within_1 : decode cX8_within 1 = .ok (.iload_n 1, 1) := by decide +kernel
theorem dX8_within_2 : decode cX8_within 2 = .ok (.if_icmp .ge 7, 3) := by decide +kernel
theorem dX8_within_5 : decode cX8_within 5 = .ok (.iload_n 1, 1) := by decide +kernel
theorem dX8_within_6 : decode cX8_within 6 = .ok (.goto 13, 3) := by decide +kernel
theorem dX8_within_9 : decode cX8_within 9 = .ok (.iload_n 0, 1) := by decide +kernel
theorem dX8_within_10 : decode cX8_within 10 = .ok (.iload_n 2, 1) := by decide +kernel
theorem dX8_within_11 : decode cX8_within 11 = .ok (.if_icmp .le 7, 3) := by decide +kernel
theorem dX8_within_14 : decode cX8_within 14 = .ok (.iload_n 2, 1) := by decide +kernel
theorem dX8_within_15 : decode cX8_within 15 = .ok (.goto 4, 3) := by decide +kernel
theorem dX8_within_18 : decode cX8_within 18 = .ok (.iload_n 0, 1) := by decide +kernel
theorem dX8_within_19 : decode cX8_within 19 = .ok (.ireturn, 1) := by decide +kernel
theorem dX8_begins_0 : decode cX8_begins 0 = .ok (.aload_n 0, 1) := by decide +kernel
theorem dX8_begins_1 : decode cX8_begins 1 = .ok (.getfield 23, 3) := by decide +kernel
theorem dX8_begins_4 : decode cX8_begins 4 = .ok (.bipush 6, 2) := by decide +kernel
theorem dX8_begins_6 : decode cX8_begins 6 = .ok (.iconst 1, 1) := by decide +kernel
theorem dX8_begins_7 : decode cX8_begins 7 = .ok (.iastore, 1) := by decide +kernel
theorem dX8_begins_8 : decode cX8_begins 8 = .ok (.aload_n 0, 1) := by decide +kernel
theorem dX8_begins_9 : decode cX8_begins 9 = .ok (.getfield 23, 3) := by decide +kernel
theorem dX8_begins_12 : decode cX8_begins 12 = .ok (.bipush 7, 2) := by decide +kernel
theorem dX8_begins_14 : decode cX8_begins 14 = .ok (.iconst 1, 1) := by decide +kernel
theorem dX8_begins_15 : decode cX8_begins 15 = .ok (.iastore, 1) := by decide +kernel
theorem dX8_begins_16 : decode cX8_begins 16 = .ok (.aload_n 0, 1) := by decide +kernel
theorem dX8_begins_17 : decode cX8_begins 17 = .ok (.getfield 23, 3) := by decide +kernel
theorem dX8_begins_20 : decode cX8_begins 20 = .ok (.bipush 8, 2) := by decide +kernel
theorem dX8_begins_22 : decode cX8_begins 22 = .ok (.iconst 1, 1) := by decide +kernel
theorem dX8_begins_23 : decode cX8_begins 23 = .ok (.iastore, 1) := by decide +kernel
theorem dX8_begins_24 : decode cX8_begins 24 = .ok (.aload_n 0, 1) := by decide +kernel
theorem dX8_begins_25 : decode cX8_begins 25 = .ok (.getfield 23, 3) := by decide +kernel
theorem dX8_begins_28 : decode cX8_begins 28 = .ok (.bipush 9, 2) := by decide +kernel
theorem dX8_begins_30 : decode cX8_begins 30 = .ok (.iconst 1, 1) := by decide +kernel
theorem dX8_begins_31 : decode cX8_begins 31 = .ok (.iastore, 1) := by decide +kernel
theorem dX8_begins_32 : decode cX8_begins 32 = .ok (.aload_n 0, 1) := by decide +kernel
theorem dX8_begins_33 : decode cX8_begins 33 = .ok (.getfield 23, 3) := by decide +kernel
theorem dX8_begins_36 : decode cX8_begins 36 = .ok (.bipush 10, 2) := by decide +kernel
theorem dX8_begins_38 : decode cX8_begins 38 = .ok (.sipush 200, 3) := by decide +kernel
theorem dX8_begins_41 : decode cX8_begins 41 = .ok (.iastore, 1) := by decide +kernel
theorem dX8_begins_42 : decode cX8_begins 42 = .ok (.aload_n 0, 1) := by decide +kernel
theorem dX8_begins_43 : decode cX8_begins 43 = .ok (.getfield 23, 3) := by decide +kernel
theorem dX8_begins_46 : decode cX8_begins 46 = .ok (.bipush 11, 2) := by decide +kernel
theorem dX8_begins_48 : decode cX8_begins 48 = .ok (.sipush 200, 3) := by decide +kernel
theorem dX8_begins_51 : decode cX8_begins 51 = .ok (.iastore, 1) := by decide +kernel
theorem dX8_begins_52 : decode cX8_begins 52 = .ok (.return_, 1) := by decide +kernel
theorem dX8_isRunner_0 : decode cX8_isRunner 0 = .ok (.iload_n 1, 1) := by decide +kernel
theorem dX8_isRunner_1 : decode cX8_isRunner 1 = .ok (.iconst 0, 1) := by decide +kernel
theorem dX8_isRunner_2 : decode cX8_isRunner 2 = .ok (.aload_n 0, 1) := by decide +kernel
theorem dX8_isRunner_3 : decode cX8_isRunner 3 = .ok (.getfield 7, 3) := by decide +kernel
theorem dX8_isRunner_6 : decode cX8_isRunner 6 = .ok (.sipush 168, 3) := by decide +kernel
theorem dX8_isRunner_9 : decode cX8_isRunner 9 = .ok (.iaload, 1) := by decide +kernel
theorem dX8_isRunner_10 : decode cX8_isRunner 10 = .ok (.iconst 1, 1) := by decide +kernel
theorem dX8_isRunner_11 : decode cX8_isRunner 11 = .ok (.isub, 1) := by decide +kernel
theorem dX8_isRunner_12 : decode cX8_isRunner 12 = .ok (.invokestatic 61, 3) := by decide +kernel
theorem dX8_isRunner_15 : decode cX8_isRunner 15 = .ok (.ireturn, 1) := by decide +kernel
theorem dX8_runner_0 : decode cX8_runner 0 = .ok (.aload_n 0, 1) := by decide +kernel
theorem dX8_runner_1 : decode cX8_runner 1 = .ok (.iconst 0, 1) := by decide +kernel
theorem dX8_runner_2 : decode cX8_runner 2 = .ok (.putfield 57, 3) := by decide +kernel
theorem dX8_runner_5 : decode cX8_runner 5 = .ok (.iload_n 1, 1) := by decide +kernel
theorem dX8_runner_6 : decode cX8_runner 6 = .ok (.iconst 0, 1) := by decide +kernel
theorem dX8_runner_7 : decode cX8_runner 7 = .ok (.sipush 200, 3) := by decide +kernel
theorem dX8_runner_10 : decode cX8_runner 10 = .ok (.invokestatic 61, 3) := by decide +kernel
theorem dX8_runner_13 : decode cX8_runner 13 = .ok (.ifCond .ne 5, 3) := by decide +kernel
theorem dX8_runner_16 : decode cX8_runner 16 = .ok (.iconst (-1), 1) := by decide +kernel
theorem dX8_runner_17 : decode cX8_runner 17 = .ok (.ireturn, 1) := by decide +kernel
theorem dX8_runner_18 : decode cX8_runner 18 = .ok (.aload_n 0, 1) := by decide +kernel
theorem dX8_runner_19 : decode cX8_runner 19 = .ok (.getfield 7, 3) := by decide +kernel
theorem dX8_runner_22 : decode cX8_runner 22 = .ok (.sipush 168, 3) := by decide +kernel
theorem dX8_runner_25 : decode cX8_runner 25 = .ok (.iaload, 1) := by decide +kernel
theorem dX8_runner_26 : decode cX8_runner 26 = .ok (.bipush 8, 2) := by decide +kernel
theorem dX8_runner_28 : decode cX8_runner 28 = .ok (.if_icmp .ne 6, 3) := by decide +kernel
theorem dX8_runner_31 : decode cX8_runner 31 = .ok (.bipush (-3), 2) := by decide +kernel
theorem dX8_runner_33 : decode cX8_runner 33 = .ok (.ireturn, 1) := by decide +kernel
theorem dX8_runner_34 : decode cX8_runner 34 = .ok (.bipush 21, 2) := by decide +kernel
theorem dX8_runner_36 : decode cX8_runner 36 = .ok (.aload_n 0, 1) := by decide +kernel
theorem dX8_runner_37 : decode cX8_runner 37 = .ok (.getfield 7, 3) := by decide +kernel
theorem dX8_runner_40 : decode cX8_runner 40 = .ok (.sipush 168, 3) := by decide +kernel
theorem dX8_runner_43 : decode cX8_runner 43 = .ok (.iaload, 1) := by decide +kernel
theorem dX8_runner_44 : decode cX8_runner 44 = .ok (.imul, 1) := by decide +kernel
theorem dX8_runner_45 : decode cX8_runner 45 = .ok (.istore_n 2, 1) := by decide +kernel
theorem dX8_runner_46 : decode cX8_runner 46 = .ok (.iconst 0, 1) := by decide +kernel
theorem dX8_runner_47 : decode cX8_runner 47 = .ok (.istore_n 3, 1) := by decide +kernel
theorem dX8_runner_48 : decode cX8_runner 48 = .ok (.iload_n 3, 1) := by decide +kernel
theorem dX8_runner_49 : decode cX8_runner 49 = .ok (.bipush 21, 2) := by decide +kernel
theorem dX8_runner_51 : decode cX8_runner 51 = .ok (.if_icmp .ge 27, 3) := by decide +kernel
theorem dX8_runner_54 : decode cX8_runner 54 = .ok (.aload_n 0, 1) := by decide +kernel
theorem dX8_runner_55 : decode cX8_runner 55 = .ok (.getfield 7, 3) := by decide +kernel
theorem dX8_runner_58 : decode cX8_runner 58 = .ok (.iload_n 2, 1) := by decide +kernel
theorem dX8_runner_59 : decode cX8_runner 59 = .ok (.iload_n 3, 1) := by decide +kernel
theorem dX8_runner_60 : decode cX8_runner 60 = .ok (.iadd, 1) := by decide +kernel
theorem dX8_runner_61 : decode cX8_runner 61 = .ok (.iload_n 3, 1) := by decide +kernel
theorem dX8_runner_62 : decode cX8_runner 62 = .ok (.iconst 2, 1) := by decide +kernel
theorem dX8_runner_63 : decode cX8_runner 63 = .ok (.if_icmp .ge 7, 3) := by decide +kernel
theorem dX8_runner_66 : decode cX8_runner 66 = .ok (.iload_n 1, 1) := by decide +kernel
theorem dX8_runner_67 : decode cX8_runner 67 = .ok (.goto 4, 3) := by decide +kernel
theorem dX8_runner_70 : decode cX8_runner 70 = .ok (.iconst 0, 1) := by decide +kernel
theorem dX8_runner_71 : decode cX8_runner 71 = .ok (.iastore, 1) := by decide +kernel
theorem dX8_runner_72 : decode cX8_runner 72 = .ok (.iinc 3 1, 3) := by decide +kernel
theorem dX8_runner_75 : decode cX8_runner 75 = .ok (.goto (-27), 3) := by decide +kernel
theorem dX8_runner_78 : decode cX8_runner 78 = .ok (.aload_n 0, 1) := by decide +kernel
theorem dX8_runner_79 : decode cX8_runner 79 = .ok (.getfield 7, 3) := by decide +kernel
theorem dX8_runner_82 : decode cX8_runner 82 = .ok (.sipush 168, 3) := by decide +kernel
theorem dX8_runner_85 : decode cX8_runner 85 = .ok (.dup2, 1) := by decide +kernel
theorem dX8_runner_86 : decode cX8_runner 86 = .ok (.iaload, 1) := by decide +kernel
theorem dX8_runner_87 : decode cX8_runner 87 = .ok (.iconst 1, 1) := by decide +kernel
theorem dX8_runner_88 : decode cX8_runner 88 = .ok (.iadd, 1) := by decide +kernel
theorem dX8_runner_89 : decode cX8_runner 89 = .ok (.iastore, 1) := by decide +kernel
theorem dX8_runner_90 : decode cX8_runner 90 = .ok (.aload_n 0, 1) := by decide +kernel
theorem dX8_runner_91 : decode cX8_runner 91 = .ok (.getfield 7, 3) := by decide +kernel
theorem dX8_runner_94 : decode cX8_runner 94 = .ok (.sipush 168, 3) := by decide +kernel
theorem dX8_runner_97 : decode cX8_runner 97 = .ok (.iaload, 1) := by decide +kernel
theorem dX8_runner_98 : decode cX8_runner 98 = .ok (.iconst 1, 1) := by decide +kernel
theorem dX8_runner_99 : decode cX8_runner 99 = .ok (.isub, 1) := by decide +kernel
theorem dX8_runner_100 : decode cX8_runner 100 = .ok (.ireturn, 1) := by decide +kernel
theorem dX8_set_0 : decode cX8_set 0 = .ok (.aload_n 0, 1) := by decide +kernel
theorem dX8_set_1 : decode cX8_set 1 = .ok (.iconst 0, 1) := by decide +kernel
theorem dX8_set_2 : decode cX8_set 2 = .ok (.putfield 57, 3) := by decide +kernel
theorem dX8_set_5 : decode cX8_set 5 = .ok (.aload_n 0, 1) := by decide +kernel
theorem dX8_set_6 : decode cX8_set 6 = .ok (.iload_n 1, 1) := by decide +kernel
theorem dX8_set_7 : decode cX8_set 7 = .ok (.invokevirtual 65, 3) := by decide +kernel
theorem dX8_set_10 : decode cX8_set 10 = .ok (.ifCond .eq 12, 3) := by decide +kernel
theorem dX8_set_13 : decode cX8_set 13 = .ok (.iload_n 2, 1) := by decide +kernel
theorem dX8_set_14 : decode cX8_set 14 = .ok (.iconst 0, 1) := by decide +kernel
theorem dX8_set_15 : decode cX8_set 15 = .ok (.iconst 5, 1) := by decide +kernel
theorem dX8_set_16 : decode cX8_set 16 = .ok (.invokestatic 61, 3) := by decide +kernel
theorem dX8_set_19 : decode cX8_set 19 = .ok (.ifCond .ne 6, 3) := by decide +kernel
theorem dX8_set_22 : decode cX8_set 22 = .ok (.ldc 69, 2) := by decide +kernel
theorem dX8_set_24 : decode cX8_set 24 = .ok (.ireturn, 1) := by decide +kernel
theorem dX8_set_25 : decode cX8_set 25 = .ok (.iload_n 2, 1) := by decide +kernel
theorem dX8_set_26 : decode cX8_set 26 = .ok (.ifCond .ne 12, 3) := by decide +kernel
theorem dX8_set_29 : decode cX8_set 29 = .ok (.iload_n 3, 1) := by decide +kernel
theorem dX8_set_30 : decode cX8_set 30 = .ok (.iconst 0, 1) := by decide +kernel
theorem dX8_set_31 : decode cX8_set 31 = .ok (.iconst 2, 1) := by decide +kernel
theorem dX8_set_32 : decode cX8_set 32 = .ok (.invokestatic 61, 3) := by decide +kernel
theorem dX8_set_35 : decode cX8_set 35 = .ok (.goto 43, 3) := by decide +kernel
theorem dX8_set_38 : decode cX8_set 38 = .ok (.iload_n 2, 1) := by decide +kernel
theorem dX8_set_39 : decode cX8_set 39 = .ok (.iconst 1, 1) := by decide +kernel
theorem dX8_set_40 : decode cX8_set 40 = .ok (.if_icmp .ne 14, 3) := by decide +kernel
theorem dX8_set_43 : decode cX8_set 43 = .ok (.iload_n 3, 1) := by decide +kernel
theorem dX8_set_44 : decode cX8_set 44 = .ok (.bipush (-9), 2) := by decide +kernel
theorem dX8_set_46 : decode cX8_set 46 = .ok (.bipush 9, 2) := by decide +kernel
theorem dX8_set_48 : decode cX8_set 48 = .ok (.invokestatic 61, 3) := by decide +kernel
theorem dX8_set_51 : decode cX8_set 51 = .ok (.goto 27, 3) := by decide +kernel
theorem dX8_set_54 : decode cX8_set 54 = .ok (.iload_n 2, 1) := by decide +kernel
theorem dX8_set_55 : decode cX8_set 55 = .ok (.iconst 5, 1) := by decide +kernel
theorem dX8_set_56 : decode cX8_set 56 = .ok (.if_icmp .ne 14, 3) := by decide +kernel
theorem dX8_set_59 : decode cX8_set 59 = .ok (.iload_n 3, 1) := by decide +kernel
theorem dX8_set_60 : decode cX8_set 60 = .ok (.iconst 0, 1) := by decide +kernel
theorem dX8_set_61 : decode cX8_set 61 = .ok (.sipush 200, 3) := by decide +kernel
theorem dX8_set_64 : decode cX8_set 64 = .ok (.invokestatic 61, 3) := by decide +kernel
theorem dX8_set_67 : decode cX8_set 67 = .ok (.goto 11, 3) := by decide +kernel
theorem dX8_set_70 : decode cX8_set 70 = .ok (.iload_n 3, 1) := by decide +kernel
theorem dX8_set_71 : decode cX8_set 71 = .ok (.bipush (-20), 2) := by decide +kernel
theorem dX8_set_73 : decode cX8_set 73 = .ok (.bipush 20, 2) := by decide +kernel
theorem dX8_set_75 : decode cX8_set 75 = .ok (.invokestatic 61, 3) := by decide +kernel
theorem dX8_set_78 : decode cX8_set 78 = .ok (.istore 4, 2) := by decide +kernel
theorem dX8_set_80 : decode cX8_set 80 = .ok (.iload 4, 2) := by decide +kernel
theorem dX8_set_82 : decode cX8_set 82 = .ok (.ifCond .ne 6, 3) := by decide +kernel
theorem dX8_set_85 : decode cX8_set 85 = .ok (.ldc 69, 2) := by decide +kernel
theorem dX8_set_87 : decode cX8_set 87 = .ok (.ireturn, 1) := by decide +kernel
theorem dX8_set_88 : decode cX8_set 88 = .ok (.bipush 21, 2) := by decide +kernel
theorem dX8_set_90 : decode cX8_set 90 = .ok (.iload_n 1, 1) := by decide +kernel
theorem dX8_set_91 : decode cX8_set 91 = .ok (.imul, 1) := by decide +kernel
theorem dX8_set_92 : decode cX8_set 92 = .ok (.iload_n 2, 1) := by decide +kernel
theorem dX8_set_93 : decode cX8_set 93 = .ok (.ifCond .ne 7, 3) := by decide +kernel
theorem dX8_set_96 : decode cX8_set 96 = .ok (.iconst 2, 1) := by decide +kernel
theorem dX8_set_97 : decode cX8_set 97 = .ok (.goto 26, 3) := by decide +kernel
theorem dX8_set_100 : decode cX8_set 100 = .ok (.iload_n 2, 1) := by decide +kernel
theorem dX8_set_101 : decode cX8_set 101 = .ok (.iconst 1, 1) := by decide +kernel
theorem dX8_set_102 : decode cX8_set 102 = .ok (.if_icmp .ne 7, 3) := by decide +kernel
theorem dX8_set_105 : decode cX8_set 105 = .ok (.iconst 3, 1) := by decide +kernel
theorem dX8_set_106 : decode cX8_set 106 = .ok (.goto 17, 3) := by decide +kernel
theorem dX8_set_109 : decode cX8_set 109 = .ok (.iload_n 2, 1) := by decide +kernel
theorem dX8_set_110 : decode cX8_set 110 = .ok (.iconst 5, 1) := by decide +kernel
theorem dX8_set_111 : decode cX8_set 111 = .ok (.if_icmp .ne 7, 3) := by decide +kernel
theorem dX8_set_114 : decode cX8_set 114 = .ok (.iconst 1, 1) := by decide +kernel
theorem dX8_set_115 : decode cX8_set 115 = .ok (.goto 8, 3) := by decide +kernel
theorem dX8_set_118 : decode cX8_set 118 = .ok (.iconst 4, 1) := by decide +kernel
theorem dX8_set_119 : decode cX8_set 119 = .ok (.iload_n 2, 1) := by decide +kernel
theorem dX8_set_120 : decode cX8_set 120 = .ok (.iadd, 1) := by decide +kernel
theorem dX8_set_121 : decode cX8_set 121 = .ok (.iconst 2, 1) := by decide +kernel
theorem dX8_set_122 : decode cX8_set 122 = .ok (.isub, 1) := by decide +kernel
theorem dX8_set_123 : decode cX8_set 123 = .ok (.iadd, 1) := by decide +kernel
theorem dX8_set_124 : decode cX8_set 124 = .ok (.istore 5, 2) := by decide +kernel
theorem dX8_set_126 : decode cX8_set 126 = .ok (.aload_n 0, 1) := by decide +kernel
theorem dX8_set_127 : decode cX8_set 127 = .ok (.getfield 7, 3) := by decide +kernel
theorem dX8_set_130 : decode cX8_set 130 = .ok (.iload 5, 2) := by decide +kernel
theorem dX8_set_132 : decode cX8_set 132 = .ok (.iaload, 1) := by decide +kernel
theorem dX8_set_133 : decode cX8_set 133 = .ok (.istore 6, 2) := by decide +kernel
theorem dX8_set_135 : decode cX8_set 135 = .ok (.aload_n 0, 1) := by decide +kernel
theorem dX8_set_136 : decode cX8_set 136 = .ok (.getfield 7, 3) := by decide +kernel
theorem dX8_set_139 : decode cX8_set 139 = .ok (.iload 5, 2) := by decide +kernel
theorem dX8_set_141 : decode cX8_set 141 = .ok (.iload_n 3, 1) := by decide +kernel
theorem dX8_set_142 : decode cX8_set 142 = .ok (.iastore, 1) := by decide +kernel
theorem dX8_set_143 : decode cX8_set 143 = .ok (.iload 6, 2) := by decide +kernel
theorem dX8_set_145 : decode cX8_set 145 = .ok (.ireturn, 1) := by decide +kernel
theorem dX8_about_0 : decode cX8_about 0 = .ok (.aload_n 0, 1) := by decide +kernel
theorem dX8_about_1 : decode cX8_about 1 = .ok (.iconst 0, 1) := by decide +kernel
theorem dX8_about_2 : decode cX8_about 2 = .ok (.putfield 57, 3) := by decide +kernel
theorem dX8_about_5 : decode cX8_about 5 = .ok (.aload_n 0, 1) := by decide +kernel
theorem dX8_about_6 : decode cX8_about 6 = .ok (.iload_n 1, 1) := by decide +kernel
theorem dX8_about_7 : decode cX8_about 7 = .ok (.invokevirtual 65, 3) := by decide +kernel
theorem dX8_about_10 : decode cX8_about 10 = .ok (.ifCond .eq 12, 3) := by decide +kernel
theorem dX8_about_13 : decode cX8_about 13 = .ok (.iload_n 2, 1) := by decide +kernel
theorem dX8_about_14 : decode cX8_about 14 = .ok (.iconst 0, 1) := by decide +kernel
theorem dX8_about_15 : decode cX8_about 15 = .ok (.iconst 5, 1) := by decide +kernel
theorem dX8_about_16 : decode cX8_about 16 = .ok (.invokestatic 61, 3) := by decide +kernel
theorem dX8_about_19 : decode cX8_about 19 = .ok (.ifCond .ne 6, 3) := by decide +kernel
theorem dX8_about_22 : decode cX8_about 22 = .ok (.ldc 69, 2) := by decide +kernel
theorem dX8_about_24 : decode cX8_about 24 = .ok (.ireturn, 1) := by decide +kernel
theorem dX8_about_25 : decode cX8_about 25 = .ok (.aload_n 0, 1) := by decide +kernel
theorem dX8_about_26 : decode cX8_about 26 = .ok (.getfield 7, 3) := by decide +kernel
theorem dX8_about_29 : decode cX8_about 29 = .ok (.bipush 21, 2) := by decide +kernel
theorem dX8_about_31 : decode cX8_about 31 = .ok (.iload_n 1, 1) := by decide +kernel
theorem dX8_about_32 : decode cX8_about 32 = .ok (.imul, 1) := by decide +kernel
theorem dX8_about_33 : decode cX8_about 33 = .ok (.iload_n 2, 1) := by decide +kernel
theorem dX8_about_34 : decode cX8_about 34 = .ok (.ifCond .ne 7, 3) := by decide +kernel
theorem dX8_about_37 : decode cX8_about 37 = .ok (.iconst 0, 1) := by decide +kernel
theorem dX8_about_38 : decode cX8_about 38 = .ok (.goto 42, 3) := by decide +kernel
theorem dX8_about_41 : decode cX8_about 41 = .ok (.iload_n 2, 1) := by decide +kernel
theorem dX8_about_42 : decode cX8_about 42 = .ok (.iconst 1, 1) := by decide +kernel
theorem dX8_about_43 : decode cX8_about 43 = .ok (.if_icmp .ne 7, 3) := by decide +kernel
theorem dX8_about_46 : decode cX8_about 46 = .ok (.iconst 1, 1) := by decide +kernel
theorem dX8_about_47 : decode cX8_about 47 = .ok (.goto 33, 3) := by decide +kernel
theorem dX8_about_50 : decode cX8_about 50 = .ok (.iload_n 2, 1) := by decide +kernel
theorem dX8_about_51 : decode cX8_about 51 = .ok (.iconst 2, 1) := by decide +kernel
theorem dX8_about_52 : decode cX8_about 52 = .ok (.if_icmp .ne 7, 3) := by decide +kernel
theorem dX8_about_55 : decode cX8_about 55 = .ok (.iconst 2, 1) := by decide +kernel
theorem dX8_about_56 : decode cX8_about 56 = .ok (.goto 24, 3) := by decide +kernel
theorem dX8_about_59 : decode cX8_about 59 = .ok (.iload_n 2, 1) := by decide +kernel
theorem dX8_about_60 : decode cX8_about 60 = .ok (.iconst 3, 1) := by decide +kernel
theorem dX8_about_61 : decode cX8_about 61 = .ok (.if_icmp .ne 7, 3) := by decide +kernel
theorem dX8_about_64 : decode cX8_about 64 = .ok (.iconst 3, 1) := by decide +kernel
theorem dX8_about_65 : decode cX8_about 65 = .ok (.goto 15, 3) := by decide +kernel
theorem dX8_about_68 : decode cX8_about 68 = .ok (.iload_n 2, 1) := by decide +kernel
theorem dX8_about_69 : decode cX8_about 69 = .ok (.iconst 4, 1) := by decide +kernel
theorem dX8_about_70 : decode cX8_about 70 = .ok (.if_icmp .ne 8, 3) := by decide +kernel
theorem dX8_about_73 : decode cX8_about 73 = .ok (.bipush 7, 2) := by decide +kernel
theorem dX8_about_75 : decode cX8_about 75 = .ok (.goto 5, 3) := by decide +kernel
theorem dX8_about_78 : decode cX8_about 78 = .ok (.bipush 8, 2) := by decide +kernel
theorem dX8_about_80 : decode cX8_about 80 = .ok (.iadd, 1) := by decide +kernel
theorem dX8_about_81 : decode cX8_about 81 = .ok (.iaload, 1) := by decide +kernel
theorem dX8_about_82 : decode cX8_about 82 = .ok (.ireturn, 1) := by decide +kernel
theorem dX8_figure_0 : decode cX8_figure 0 = .ok (.aload_n 0, 1) := by decide +kernel
theorem dX8_figure_1 : decode cX8_figure 1 = .ok (.iconst 0, 1) := by decide +kernel
theorem dX8_figure_2 : decode cX8_figure 2 = .ok (.putfield 57, 3) := by decide +kernel
theorem dX8_figure_5 : decode cX8_figure 5 = .ok (.aload_n 0, 1) := by decide +kernel
theorem dX8_figure_6 : decode cX8_figure 6 = .ok (.iload_n 1, 1) := by decide +kernel
theorem dX8_figure_7 : decode cX8_figure 7 = .ok (.invokevirtual 65, 3) := by decide +kernel
theorem dX8_figure_10 : decode cX8_figure 10 = .ok (.ifCond .eq 42, 3) := by decide +kernel
theorem dX8_figure_13 : decode cX8_figure 13 = .ok (.iload_n 2, 1) := by decide +kernel
theorem dX8_figure_14 : decode cX8_figure 14 = .ok (.iconst 0, 1) := by decide +kernel
theorem dX8_figure_15 : decode cX8_figure 15 = .ok (.aload_n 0, 1) := by decide +kernel
theorem dX8_figure_16 : decode cX8_figure 16 = .ok (.getfield 7, 3) := by decide +kernel
theorem dX8_figure_19 : decode cX8_figure 19 = .ok (.bipush 21, 2) := by decide +kernel
theorem dX8_figure_21 : decode cX8_figure 21 = .ok (.iload_n 1, 1) := by decide +kernel
theorem dX8_figure_22 : decode cX8_figure 22 = .ok (.imul, 1) := by decide +kernel
theorem dX8_figure_23 : decode cX8_figure 23 = .ok (.bipush 8, 2) := by decide +kernel
theorem dX8_figure_25 : decode cX8_figure 25 = .ok (.iadd, 1) := by decide +kernel
theorem dX8_figure_26 : decode cX8_figure 26 = .ok (.iaload, 1) := by decide +kernel
theorem dX8_figure_27 : decode cX8_figure 27 = .ok (.iconst 1, 1) := by decide +kernel
theorem dX8_figure_28 : decode cX8_figure 28 = .ok (.isub, 1) := by decide +kernel
theorem dX8_figure_29 : decode cX8_figure 29 = .ok (.invokestatic 61, 3) := by decide +kernel
theorem dX8_figure_32 : decode cX8_figure 32 = .ok (.ifCond .eq 20, 3) := by decide +kernel
theorem dX8_figure_35 : decode cX8_figure 35 = .ok (.aload_n 0, 1) := by decide +kernel
theorem dX8_figure_36 : decode cX8_figure 36 = .ok (.getfield 7, 3) := by decide +kernel
theorem dX8_figure_39 : decode cX8_figure 39 = .ok (.bipush 21, 2) := by decide +kernel
theorem dX8_figure_41 : decode cX8_figure 41 = .ok (.iload_n 1, 1) := by decide +kernel
theorem dX8_figure_42 : decode cX8_figure 42 = .ok (.imul, 1) := by decide +kernel
theorem dX8_figure_43 : decode cX8_figure 43 = .ok (.bipush 9, 2) := by decide +kernel
theorem dX8_figure_45 : decode cX8_figure 45 = .ok (.iadd, 1) := by decide +kernel
theorem dX8_figure_46 : decode cX8_figure 46 = .ok (.iload_n 2, 1) := by decide +kernel
theorem dX8_figure_47 : decode cX8_figure 47 = .ok (.iadd, 1) := by decide +kernel
theorem dX8_figure_48 : decode cX8_figure 48 = .ok (.iaload, 1) := by decide +kernel
theorem dX8_figure_49 : decode cX8_figure 49 = .ok (.goto 5, 3) := by decide +kernel
theorem dX8_figure_52 : decode cX8_figure 52 = .ok (.ldc 69, 2) := by decide +kernel
theorem dX8_figure_54 : decode cX8_figure 54 = .ok (.ireturn, 1) := by decide +kernel
theorem dX8_tune_0 : decode cX8_tune 0 = .ok (.aload_n 0, 1) := by decide +kernel
theorem dX8_tune_1 : decode cX8_tune 1 = .ok (.iconst 0, 1) := by decide +kernel
theorem dX8_tune_2 : decode cX8_tune 2 = .ok (.putfield 57, 3) := by decide +kernel
theorem dX8_tune_5 : decode cX8_tune 5 = .ok (.iload_n 1, 1) := by decide +kernel
theorem dX8_tune_6 : decode cX8_tune 6 = .ok (.iconst 0, 1) := by decide +kernel
theorem dX8_tune_7 : decode cX8_tune 7 = .ok (.iconst 2, 1) := by decide +kernel
theorem dX8_tune_8 : decode cX8_tune 8 = .ok (.invokestatic 61, 3) := by decide +kernel
theorem dX8_tune_11 : decode cX8_tune 11 = .ok (.ifCond .eq 21, 3) := by decide +kernel
theorem dX8_tune_14 : decode cX8_tune 14 = .ok (.iload_n 2, 1) := by decide +kernel
theorem dX8_tune_15 : decode cX8_tune 15 = .ok (.iconst 0, 1) := by decide +kernel
theorem dX8_tune_16 : decode cX8_tune 16 = .ok (.iload_n 1, 1) := by decide +kernel
theorem dX8_tune_17 : decode cX8_tune 17 = .ok (.ifCond .ne 7, 3) := by decide +kernel
theorem dX8_tune_20 : decode cX8_tune 20 = .ok (.iconst 5, 1) := by decide +kernel
theorem dX8_tune_21 : decode cX8_tune 21 = .ok (.goto 5, 3) := by decide +kernel
theorem dX8_tune_24 : decode cX8_tune 24 = .ok (.bipush 50, 2) := by decide +kernel
theorem dX8_tune_26 : decode cX8_tune 26 = .ok (.invokestatic 61, 3) := by decide +kernel
theorem dX8_tune_29 : decode cX8_tune 29 = .ok (.ifCond .ne 5, 3) := by decide +kernel
theorem dX8_tune_32 : decode cX8_tune 32 = .ok (.iconst (-1), 1) := by decide +kernel
theorem dX8_tune_33 : decode cX8_tune 33 = .ok (.ireturn, 1) := by decide +kernel
theorem dX8_tune_34 : decode cX8_tune 34 = .ok (.aload_n 0, 1) := by decide +kernel
theorem dX8_tune_35 : decode cX8_tune 35 = .ok (.getfield 20, 3) := by decide +kernel
theorem dX8_tune_38 : decode cX8_tune 38 = .ok (.iload_n 1, 1) := by decide +kernel
theorem dX8_tune_39 : decode cX8_tune 39 = .ok (.iaload, 1) := by decide +kernel
theorem dX8_tune_40 : decode cX8_tune 40 = .ok (.istore_n 3, 1) := by decide +kernel
theorem dX8_tune_41 : decode cX8_tune 41 = .ok (.aload_n 0, 1) := by decide +kernel
theorem dX8_tune_42 : decode cX8_tune 42 = .ok (.getfield 20, 3) := by decide +kernel
theorem dX8_tune_45 : decode cX8_tune 45 = .ok (.iload_n 1, 1) := by decide +kernel
theorem dX8_tune_46 : decode cX8_tune 46 = .ok (.iload_n 2, 1) := by decide +kernel
theorem dX8_tune_47 : decode cX8_tune 47 = .ok (.iastore, 1) := by decide +kernel
theorem dX8_tune_48 : decode cX8_tune 48 = .ok (.iload_n 3, 1) := by decide +kernel
theorem dX8_tune_49 : decode cX8_tune 49 = .ok (.ireturn, 1) := by decide +kernel
theorem dX8_lot_0 : decode cX8_lot 0 = .ok (.aload_n 0, 1) := by decide +kernel
theorem dX8_lot_1 : decode cX8_lot 1 = .ok (.iconst 0, 1) := by decide +kernel
theorem dX8_lot_2 : decode cX8_lot 2 = .ok (.putfield 57, 3) := by decide +kernel
theorem dX8_lot_5 : decode cX8_lot 5 = .ok (.aload_n 0, 1) := by decide +kernel
theorem dX8_lot_6 : decode cX8_lot 6 = .ok (.getfield 7, 3) := by decide +kernel
theorem dX8_lot_9 : decode cX8_lot 9 = .ok (.sipush 169, 3) := by decide +kernel
theorem dX8_lot_12 : decode cX8_lot 12 = .ok (.iaload, 1) := by decide +kernel
theorem dX8_lot_13 : decode cX8_lot 13 = .ok (.istore_n 2, 1) := by decide +kernel
theorem dX8_lot_14 : decode cX8_lot 14 = .ok (.aload_n 0, 1) := by decide +kernel
theorem dX8_lot_15 : decode cX8_lot 15 = .ok (.getfield 7, 3) := by decide +kernel
theorem dX8_lot_18 : decode cX8_lot 18 = .ok (.sipush 169, 3) := by decide +kernel
theorem dX8_lot_21 : decode cX8_lot 21 = .ok (.iload_n 1, 1) := by decide +kernel
theorem dX8_lot_22 : decode cX8_lot 22 = .ok (.iastore, 1) := by decide +kernel
theorem dX8_lot_23 : decode cX8_lot 23 = .ok (.iload_n 2, 1) := by decide +kernel
theorem dX8_lot_24 : decode cX8_lot 24 = .ok (.ireturn, 1) := by decide +kernel
theorem dX8_type_0 : decode cX8_type 0 = .ok (.aload_n 0, 1) := by decide +kernel
theorem dX8_type_1 : decode cX8_type 1 = .ok (.iconst 0, 1) := by decide +kernel
theorem dX8_type_2 : decode cX8_type 2 = .ok (.putfield 57, 3) := by decide +kernel
theorem dX8_type_5 : decode cX8_type 5 = .ok (.iload_n 3, 1) := by decide +kernel
theorem dX8_type_6 : decode cX8_type 6 = .ok (.iconst 1, 1) := by decide +kernel
theorem dX8_type_7 : decode cX8_type 7 = .ok (.bipush 8, 2) := by decide +kernel
theorem dX8_type_9 : decode cX8_type 9 = .ok (.invokestatic 61, 3) := by decide +kernel
theorem dX8_type_12 : decode cX8_type 12 = .ok (.ifCond .ne 5, 3) := by decide +kernel
theorem dX8_type_15 : decode cX8_type 15 = .ok (.iconst (-1), 1) := by decide +kernel
theorem dX8_type_16 : decode cX8_type 16 = .ok (.ireturn, 1) := by decide +kernel
theorem dX8_type_17 : decode cX8_type 17 = .ok (.aload_n 0, 1) := by decide +kernel
theorem dX8_type_18 : decode cX8_type 18 = .ok (.getfield 70, 3) := by decide +kernel
theorem dX8_type_21 : decode cX8_type 21 = .ok (.iload_n 3, 1) := by decide +kernel
theorem dX8_type_22 : decode cX8_type 22 = .ok (.iadd, 1) := by decide +kernel
theorem dX8_type_23 : decode cX8_type 23 = .ok (.sipush 200, 3) := by decide +kernel
theorem dX8_type_26 : decode cX8_type 26 = .ok (.if_icmp .le 6, 3) := by decide +kernel
theorem dX8_type_29 : decode cX8_type 29 = .ok (.bipush (-3), 2) := by decide +kernel
theorem dX8_type_31 : decode cX8_type 31 = .ok (.ireturn, 1) := by decide +kernel
theorem dX8_type_32 : decode cX8_type 32 = .ok (.iload_n 3, 1) := by decide +kernel
theorem dX8_type_33 : decode cX8_type 33 = .ok (.iconst 1, 1) := by decide +kernel
theorem dX8_type_34 : decode cX8_type 34 = .ok (.isub, 1) := by decide +kernel
theorem dX8_type_35 : decode cX8_type 35 = .ok (.istore 4, 2) := by decide +kernel
theorem dX8_type_37 : decode cX8_type 37 = .ok (.iload 4, 2) := by decide +kernel
theorem dX8_type_39 : decode cX8_type 39 = .ok (.ifCond .lt 40, 3) := by decide +kernel
theorem dX8_type_42 : decode cX8_type 42 = .ok (.aload_n 0, 1) := by decide +kernel
theorem dX8_type_43 : decode cX8_type 43 = .ok (.getfield 26, 3) := by decide +kernel
theorem dX8_type_46 : decode cX8_type 46 = .ok (.aload_n 0, 1) := by decide +kernel
theorem dX8_type_47 : decode cX8_type 47 = .ok (.getfield 70, 3) := by decide +kernel
theorem dX8_type_50 : decode cX8_type 50 = .ok (.lload_n 1, 1) := by decide +kernel
theorem dX8_type_51 : decode cX8_type 51 = .ok (.bipush 8, 2) := by decide +kernel
theorem dX8_type_53 : decode cX8_type 53 = .ok (.iload 4, 2) := by decide +kernel
theorem dX8_type_55 : decode cX8_type 55 = .ok (.imul, 1) := by decide +kernel
theorem dX8_type_56 : decode cX8_type 56 = .ok (.lshr, 1) := by decide +kernel
theorem dX8_type_57 : decode cX8_type 57 = .ok (.ldc2_w 73, 3) := by decide +kernel
theorem dX8_type_60 : decode cX8_type 60 = .ok (.land, 1) := by decide +kernel
theorem dX8_type_61 : decode cX8_type 61 = .ok (.l2i, 1) := by decide +kernel
theorem dX8_type_62 : decode cX8_type 62 = .ok (.iastore, 1) := by decide +kernel
theorem dX8_type_63 : decode cX8_type 63 = .ok (.aload_n 0, 1) := by decide +kernel
theorem dX8_type_64 : decode cX8_type 64 = .ok (.dup, 1) := by decide +kernel
theorem dX8_type_65 : decode cX8_type 65 = .ok (.getfield 70, 3) := by decide +kernel
theorem dX8_type_68 : decode cX8_type 68 = .ok (.iconst 1, 1) := by decide +kernel
theorem dX8_type_69 : decode cX8_type 69 = .ok (.iadd, 1) := by decide +kernel
theorem dX8_type_70 : decode cX8_type 70 = .ok (.putfield 70, 3) := by decide +kernel
theorem dX8_type_73 : decode cX8_type 73 = .ok (.iinc 4 (-1), 3) := by decide +kernel
theorem dX8_type_76 : decode cX8_type 76 = .ok (.goto (-39), 3) := by decide +kernel
theorem dX8_type_79 : decode cX8_type 79 = .ok (.aload_n 0, 1) := by decide +kernel
theorem dX8_type_80 : decode cX8_type 80 = .ok (.getfield 70, 3) := by decide +kernel
theorem dX8_type_83 : decode cX8_type 83 = .ok (.ireturn, 1) := by decide +kernel
theorem dX8_clear_0 : decode cX8_clear 0 = .ok (.aload_n 0, 1) := by decide +kernel
theorem dX8_clear_1 : decode cX8_clear 1 = .ok (.iconst 0, 1) := by decide +kernel
theorem dX8_clear_2 : decode cX8_clear 2 = .ok (.putfield 57, 3) := by decide +kernel
theorem dX8_clear_5 : decode cX8_clear 5 = .ok (.aload_n 0, 1) := by decide +kernel
theorem dX8_clear_6 : decode cX8_clear 6 = .ok (.getfield 70, 3) := by decide +kernel
theorem dX8_clear_9 : decode cX8_clear 9 = .ok (.istore_n 1, 1) := by decide +kernel
theorem dX8_clear_10 : decode cX8_clear 10 = .ok (.aload_n 0, 1) := by decide +kernel
theorem dX8_clear_11 : decode cX8_clear 11 = .ok (.iconst 0, 1) := by decide +kernel
theorem dX8_clear_12 : decode cX8_clear 12 = .ok (.putfield 70, 3) := by decide +kernel
theorem dX8_clear_15 : decode cX8_clear 15 = .ok (.iload_n 1, 1) := by decide +kernel
theorem dX8_clear_16 : decode cX8_clear 16 = .ok (.ireturn, 1) := by decide +kernel
theorem dX8_byteAt_0 : decode cX8_byteAt 0 = .ok (.iload_n 1, 1) := by decide +kernel
theorem dX8_byteAt_1 : decode cX8_byteAt 1 = .ok (.aload_n 0, 1) := by decide +kernel
theorem dX8_byteAt_2 : decode cX8_byteAt 2 = .ok (.getfield 70, 3) := by decide +kernel
theorem dX8_byteAt_5 : decode cX8_byteAt 5 = .ok (.if_icmp .ge 12, 3) := by decide +kernel
theorem dX8_byteAt_8 : decode cX8_byteAt 8 = .ok (.aload_n 0, 1) := by decide +kernel
theorem dX8_byteAt_9 : decode cX8_byteAt 9 = .ok (.getfield 26, 3) := by decide +kernel
theorem dX8_byteAt_12 : decode cX8_byteAt 12 = .ok (.iload_n 1, 1) := by decide +kernel
theorem dX8_byteAt_13 : decode cX8_byteAt 13 = .ok (.iaload, 1) := by decide +kernel
theorem dX8_byteAt_14 : decode cX8_byteAt 14 = .ok (.goto 4, 3) := by decide +kernel
theorem dX8_byteAt_17 : decode cX8_byteAt 17 = .ok (.iconst (-1), 1) := by decide +kernel
theorem dX8_byteAt_18 : decode cX8_byteAt 18 = .ok (.ireturn, 1) := by decide +kernel
theorem dX8_wordOf_0 : decode cX8_wordOf 0 = .ok (.lload_n 0, 1) := by decide +kernel
theorem dX8_wordOf_1 : decode cX8_wordOf 1 = .ok (.bipush 98, 2) := by decide +kernel
theorem dX8_wordOf_3 : decode cX8_wordOf 3 = .ok (.bipush 101, 2) := by decide +kernel
theorem dX8_wordOf_5 : decode cX8_wordOf 5 = .ok (.bipush 115, 2) := by decide +kernel
theorem dX8_wordOf_7 : decode cX8_wordOf 7 = .ok (.bipush 116, 2) := by decide +kernel
theorem dX8_wordOf_9 : decode cX8_wordOf 9 = .ok (.invokestatic 75, 3) := by decide +kernel
theorem dX8_wordOf_12 : decode cX8_wordOf 12 = .ok (.lcmp, 1) := by decide +kernel
theorem dX8_wordOf_13 : decode cX8_wordOf 13 = .ok (.ifCond .ne 7, 3) := by decide +kernel
theorem dX8_wordOf_16 : decode cX8_wordOf 16 = .ok (.iconst 0, 1) := by decide +kernel
theorem dX8_wordOf_17 : decode cX8_wordOf 17 = .ok (.goto 82, 3) := by decide +kernel
theorem dX8_wordOf_20 : decode cX8_wordOf 20 = .ok (.lload_n 0, 1) := by decide +kernel
theorem dX8_wordOf_21 : decode cX8_wordOf 21 = .ok (.bipush 109, 2) := by decide +kernel
theorem dX8_wordOf_23 : decode cX8_wordOf 23 = .ok (.bipush 111, 2) := by decide +kernel
theorem dX8_wordOf_25 : decode cX8_wordOf 25 = .ok (.bipush 118, 2) := by decide +kernel
theorem dX8_wordOf_27 : decode cX8_wordOf 27 = .ok (.bipush 101, 2) := by decide +kernel
theorem dX8_wordOf_29 : decode cX8_wordOf 29 = .ok (.invokestatic 75, 3) := by decide +kernel
theorem dX8_wordOf_32 : decode cX8_wordOf 32 = .ok (.lcmp, 1) := by decide +kernel
theorem dX8_wordOf_33 : decode cX8_wordOf 33 = .ok (.ifCond .ne 7, 3) := by decide +kernel
theorem dX8_wordOf_36 : decode cX8_wordOf 36 = .ok (.iconst 1, 1) := by decide +kernel
theorem dX8_wordOf_37 : decode cX8_wordOf 37 = .ok (.goto 62, 3) := by decide +kernel
theorem dX8_wordOf_40 : decode cX8_wordOf 40 = .ok (.lload_n 0, 1) := by decide +kernel
theorem dX8_wordOf_41 : decode cX8_wordOf 41 = .ok (.bipush 99, 2) := by decide +kernel
theorem dX8_wordOf_43 : decode cX8_wordOf 43 = .ok (.bipush 97, 2) := by decide +kernel
theorem dX8_wordOf_45 : decode cX8_wordOf 45 = .ok (.bipush 112, 2) := by decide +kernel
theorem dX8_wordOf_47 : decode cX8_wordOf 47 = .ok (.iconst 0, 1) := by decide +kernel
theorem dX8_wordOf_48 : decode cX8_wordOf 48 = .ok (.invokestatic 75, 3) := by decide +kernel
theorem dX8_wordOf_51 : decode cX8_wordOf 51 = .ok (.lcmp, 1) := by decide +kernel
theorem dX8_wordOf_52 : decode cX8_wordOf 52 = .ok (.ifCond .ne 7, 3) := by decide +kernel
theorem dX8_wordOf_55 : decode cX8_wordOf 55 = .ok (.iconst 2, 1) := by decide +kernel
theorem dX8_wordOf_56 : decode cX8_wordOf 56 = .ok (.goto 43, 3) := by decide +kernel
theorem dX8_wordOf_59 : decode cX8_wordOf 59 = .ok (.lload_n 0, 1) := by decide +kernel
theorem dX8_wordOf_60 : decode cX8_wordOf 60 = .ok (.bipush 111, 2) := by decide +kernel
theorem dX8_wordOf_62 : decode cX8_wordOf 62 = .ok (.bipush 118, 2) := by decide +kernel
theorem dX8_wordOf_64 : decode cX8_wordOf 64 = .ok (.bipush 101, 2) := by decide +kernel
theorem dX8_wordOf_66 : decode cX8_wordOf 66 = .ok (.bipush 114, 2) := by decide +kernel
theorem dX8_wordOf_68 : decode cX8_wordOf 68 = .ok (.invokestatic 75, 3) := by decide +kernel
theorem dX8_wordOf_71 : decode cX8_wordOf 71 = .ok (.lcmp, 1) := by decide +kernel
theorem dX8_wordOf_72 : decode cX8_wordOf 72 = .ok (.ifCond .ne 7, 3) := by decide +kernel
theorem dX8_wordOf_75 : decode cX8_wordOf 75 = .ok (.iconst 3, 1) := by decide +kernel
theorem dX8_wordOf_76 : decode cX8_wordOf 76 = .ok (.goto 23, 3) := by decide +kernel
theorem dX8_wordOf_79 : decode cX8_wordOf 79 = .ok (.lload_n 0, 1) := by decide +kernel
theorem dX8_wordOf_80 : decode cX8_wordOf 80 = .ok (.bipush 111, 2) := by decide +kernel
theorem dX8_wordOf_82 : decode cX8_wordOf 82 = .ok (.bipush 102, 2) := by decide +kernel
theorem dX8_wordOf_84 : decode cX8_wordOf 84 = .ok (.iconst 0, 1) := by decide +kernel
theorem dX8_wordOf_85 : decode cX8_wordOf 85 = .ok (.iconst 0, 1) := by decide +kernel
theorem dX8_wordOf_86 : decode cX8_wordOf 86 = .ok (.invokestatic 75, 3) := by decide +kernel
theorem dX8_wordOf_89 : decode cX8_wordOf 89 = .ok (.lcmp, 1) := by decide +kernel
theorem dX8_wordOf_90 : decode cX8_wordOf 90 = .ok (.ifCond .ne 7, 3) := by decide +kernel
theorem dX8_wordOf_93 : decode cX8_wordOf 93 = .ok (.iconst 4, 1) := by decide +kernel
theorem dX8_wordOf_94 : decode cX8_wordOf 94 = .ok (.goto 5, 3) := by decide +kernel
theorem dX8_wordOf_97 : decode cX8_wordOf 97 = .ok (.bipush (-9), 2) := by decide +kernel
theorem dX8_wordOf_99 : decode cX8_wordOf 99 = .ok (.ireturn, 1) := by decide +kernel
theorem dX8_named_0 : decode cX8_named 0 = .ok (.ldc2_w 79, 3) := by decide +kernel
theorem dX8_named_3 : decode cX8_named 3 = .ok (.iload_n 0, 1) := by decide +kernel
theorem dX8_named_4 : decode cX8_named 4 = .ok (.i2l, 1) := by decide +kernel
theorem dX8_named_5 : decode cX8_named 5 = .ok (.lmul, 1) := by decide +kernel
theorem dX8_named_6 : decode cX8_named 6 = .ok (.iload_n 1, 1) := by decide +kernel
theorem dX8_named_7 : decode cX8_named 7 = .ok (.i2l, 1) := by decide +kernel
theorem dX8_named_8 : decode cX8_named 8 = .ok (.ladd, 1) := by decide +kernel
theorem dX8_named_9 : decode cX8_named 9 = .ok (.lstore 4, 2) := by decide +kernel
theorem dX8_named_11 : decode cX8_named 11 = .ok (.iload_n 2, 1) := by decide +kernel
theorem dX8_named_12 : decode cX8_named 12 = .ok (.ifCond .ne 8, 3) := by decide +kernel
theorem dX8_named_15 : decode cX8_named 15 = .ok (.lload 4, 2) := by decide +kernel
theorem dX8_named_17 : decode cX8_named 17 = .ok (.goto 12, 3) := by decide +kernel
theorem dX8_named_20 : decode cX8_named 20 = .ok (.ldc2_w 79, 3) := by decide +kernel
theorem dX8_named_23 : decode cX8_named 23 = .ok (.lload 4, 2) := by decide +kernel
theorem dX8_named_25 : decode cX8_named 25 = .ok (.lmul, 1) := by decide +kernel
theorem dX8_named_26 : decode cX8_named 26 = .ok (.iload_n 2, 1) := by decide +kernel
theorem dX8_named_27 : decode cX8_named 27 = .ok (.i2l, 1) := by decide +kernel
theorem dX8_named_28 : decode cX8_named 28 = .ok (.ladd, 1) := by decide +kernel
theorem dX8_named_29 : decode cX8_named 29 = .ok (.lstore 4, 2) := by decide +kernel
theorem dX8_named_31 : decode cX8_named 31 = .ok (.iload_n 3, 1) := by decide +kernel
theorem dX8_named_32 : decode cX8_named 32 = .ok (.ifCond .ne 8, 3) := by decide +kernel
theorem dX8_named_35 : decode cX8_named 35 = .ok (.lload 4, 2) := by decide +kernel
theorem dX8_named_37 : decode cX8_named 37 = .ok (.goto 12, 3) := by decide +kernel
theorem dX8_named_40 : decode cX8_named 40 = .ok (.ldc2_w 79, 3) := by decide +kernel
theorem dX8_named_43 : decode cX8_named 43 = .ok (.lload 4, 2) := by decide +kernel
theorem dX8_named_45 : decode cX8_named 45 = .ok (.lmul, 1) := by decide +kernel
theorem dX8_named_46 : decode cX8_named 46 = .ok (.iload_n 3, 1) := by decide +kernel
theorem dX8_named_47 : decode cX8_named 47 = .ok (.i2l, 1) := by decide +kernel
theorem dX8_named_48 : decode cX8_named 48 = .ok (.ladd, 1) := by decide +kernel
theorem dX8_named_49 : decode cX8_named 49 = .ok (.lreturn, 1) := by decide +kernel
theorem dX8_advances_0 : decode cX8_advances 0 = .ok (.aload_n 0, 1) := by decide +kernel
theorem dX8_advances_1 : decode cX8_advances 1 = .ok (.aload_n 0, 1) := by decide +kernel
theorem dX8_advances_2 : decode cX8_advances 2 = .ok (.getfield 81, 3) := by decide +kernel
theorem dX8_advances_5 : decode cX8_advances 5 = .ok (.invokevirtual 84, 3) := by decide +kernel
theorem dX8_advances_8 : decode cX8_advances 8 = .ok (.bipush 32, 2) := by decide +kernel
theorem dX8_advances_10 : decode cX8_advances 10 = .ok (.if_icmp .ne 16, 3) := by decide +kernel
theorem dX8_advances_13 : decode cX8_advances 13 = .ok (.aload_n 0, 1) := by decide +kernel
theorem dX8_advances_14 : decode cX8_advances 14 = .ok (.dup, 1) := by decide +kernel
theorem dX8_advances_15 : decode cX8_advances 15 = .ok (.getfield 81, 3) := by decide +kernel
theorem dX8_advances_18 : decode cX8_advances 18 = .ok (.iconst 1, 1) := by decide +kernel
theorem dX8_advances_19 : decode cX8_advances 19 = .ok (.iadd, 1) := by decide +kernel
theorem dX8_advances_20 : decode cX8_advances 20 = .ok (.putfield 81, 3) := by decide +kernel
theorem dX8_advances_23 : decode cX8_advances 23 = .ok (.goto (-23), 3) := by decide +kernel
theorem dX8_advances_26 : decode cX8_advances 26 = .ok (.aload_n 0, 1) := by decide +kernel
theorem dX8_advances_27 : decode cX8_advances 27 = .ok (.aload_n 0, 1) := by decide +kernel
theorem dX8_advances_28 : decode cX8_advances 28 = .ok (.getfield 81, 3) := by decide +kernel
theorem dX8_advances_31 : decode cX8_advances 31 = .ok (.putfield 88, 3) := by decide +kernel
theorem dX8_advances_34 : decode cX8_advances 34 = .ok (.aload_n 0, 1) := by decide +kernel
theorem dX8_advances_35 : decode cX8_advances 35 = .ok (.aload_n 0, 1) := by decide +kernel
theorem dX8_advances_36 : decode cX8_advances 36 = .ok (.getfield 81, 3) := by decide +kernel
theorem dX8_advances_39 : decode cX8_advances 39 = .ok (.invokevirtual 84, 3) := by decide +kernel
theorem dX8_advances_42 : decode cX8_advances 42 = .ok (.istore_n 1, 1) := by decide +kernel
theorem dX8_advances_43 : decode cX8_advances 43 = .ok (.iload_n 1, 1) := by decide +kernel
theorem dX8_advances_44 : decode cX8_advances 44 = .ok (.ifCond .ge 11, 3) := by decide +kernel
theorem dX8_advances_47 : decode cX8_advances 47 = .ok (.aload_n 0, 1) := by decide +kernel
theorem dX8_advances_48 : decode cX8_advances 48 = .ok (.iconst 0, 1) := by decide +kernel
theorem dX8_advances_49 : decode cX8_advances 49 = .ok (.putfield 91, 3) := by decide +kernel
theorem dX8_advances_52 : decode cX8_advances 52 = .ok (.goto 273, 3) := by decide +kernel
theorem dX8_advances_55 : decode cX8_advances 55 = .ok (.iload_n 1, 1) := by decide +kernel
theorem dX8_advances_56 : decode cX8_advances 56 = .ok (.bipush 97, 2) := by decide +kernel
theorem dX8_advances_58 : decode cX8_advances 58 = .ok (.bipush 122, 2) := by decide +kernel
theorem dX8_advances_60 : decode cX8_advances 60 = .ok (.invokestatic 61, 3) := by decide +kernel
theorem dX8_advances_63 : decode cX8_advances 63 = .ok (.ifCond .eq 99, 3) := by decide +kernel
theorem dX8_advances_66 : decode cX8_advances 66 = .ok (.lconst 0, 1) := by decide +kernel
theorem dX8_advances_67 : decode cX8_advances 67 = .ok (.lstore_n 2, 1) := by decide +kernel
theorem dX8_advances_68 : decode cX8_advances 68 = .ok (.aload_n 0, 1) := by decide +kernel
theorem dX8_advances_69 : decode cX8_advances 69 = .ok (.aload_n 0, 1) := by decide +kernel
theorem dX8_advances_70 : decode cX8_advances 70 = .ok (.getfield 81, 3) := by decide +kernel
theorem dX8_advances_73 : decode cX8_advances 73 = .ok (.invokevirtual 84, 3) := by decide +kernel
theorem dX8_advances_76 : decode cX8_advances 76 = .ok (.bipush 97, 2) := by decide +kernel
theorem dX8_advances_78 : decode cX8_advances 78 = .ok (.bipush 122, 2) := by decide +kernel
theorem dX8_advances_80 : decode cX8_advances 80 = .ok (.invokestatic 61, 3) := by decide +kernel
theorem dX8_advances_83 : decode cX8_advances 83 = .ok (.ifCond .eq 50, 3) := by decide +kernel
theorem dX8_advances_86 : decode cX8_advances 86 = .ok (.aload_n 0, 1) := by decide +kernel
theorem dX8_advances_87 : decode cX8_advances 87 = .ok (.getfield 81, 3) := by decide +kernel
theorem dX8_advances_90 : decode cX8_advances 90 = .ok (.aload_n 0, 1) := by decide +kernel
theorem dX8_advances_91 : decode cX8_advances 91 = .ok (.getfield 88, 3) := by decide +kernel
theorem dX8_advances_94 : decode cX8_advances 94 = .ok (.isub, 1) := by decide +kernel
theorem dX8_advances_95 : decode cX8_advances 95 = .ok (.bipush 6, 2) := by decide +kernel
theorem dX8_advances_97 : decode cX8_advances 97 = .ok (.if_icmp .ge 21, 3) := by decide +kernel
theorem dX8_advances_100 : decode cX8_advances 100 = .ok (.ldc2_w 79, 3) := by decide +kernel
theorem dX8_advances_103 : decode cX8_advances 103 = .ok (.lload_n 2, 1) := by decide +kernel
theorem dX8_advances_104 : decode cX8_advances 104 = .ok (.lmul, 1) := by decide +kernel
theorem dX8_advances_105 : decode cX8_advances 105 = .ok (.aload_n 0, 1) := by decide +kernel
theorem dX8_advances_106 : decode cX8_advances 106 = .ok (.aload_n 0, 1) := by decide +kernel
theorem dX8_advances_107 : decode cX8_advances 107 = .ok (.getfield 81, 3) := by decide +kernel
theorem dX8_advances_110 : decode cX8_advances 110 = .ok (.invokevirtual 84, 3) := by decide +kernel
theorem dX8_advances_113 : decode cX8_advances 113 = .ok (.i2l, 1) := by decide +kernel
theorem dX8_advances_114 : decode cX8_advances 114 = .ok (.ladd, 1) := by decide +kernel
theorem dX8_advances_115 : decode cX8_advances 115 = .ok (.goto 4, 3) := by decide +kernel
theorem dX8_advances_118 : decode cX8_advances 118 = .ok (.lload_n 2, 1) := by decide +kernel
theorem dX8_advances_119 : decode cX8_advances 119 = .ok (.lstore_n 2, 1) := by decide +kernel
theorem dX8_advances_120 : decode cX8_advances 120 = .ok (.aload_n 0, 1) := by decide +kernel
theorem dX8_advances_121 : decode cX8_advances 121 = .ok (.dup, 1) := by decide +kernel
theorem dX8_advances_122 : decode cX8_advances 122 = .ok (.getfield 81, 3) := by decide +kernel
theorem dX8_advances_125 : decode cX8_advances 125 = .ok (.iconst 1, 1) := by decide +kernel
theorem dX8_advances_126 : decode cX8_advances 126 = .ok (.iadd, 1) := by decide +kernel
theorem dX8_advances_127 : decode cX8_advances 127 = .ok (.putfield 81, 3) := by decide +kernel
theorem dX8_advances_130 : decode cX8_advances 130 = .ok (.goto (-62), 3) := by decide +kernel
theorem dX8_advances_133 : decode cX8_advances 133 = .ok (.aload_n 0, 1) := by decide +kernel
theorem dX8_advances_134 : decode cX8_advances 134 = .ok (.lload_n 2, 1) := by decide +kernel
theorem dX8_advances_135 : decode cX8_advances 135 = .ok (.invokestatic 94, 3) := by decide +kernel
theorem dX8_advances_138 : decode cX8_advances 138 = .ok (.putfield 98, 3) := by decide +kernel
theorem dX8_advances_141 : decode cX8_advances 141 = .ok (.aload_n 0, 1) := by decide +kernel
theorem dX8_advances_142 : decode cX8_advances 142 = .ok (.aload_n 0, 1) := by decide +kernel
theorem dX8_advances_143 : decode cX8_advances 143 = .ok (.getfield 98, 3) := by decide +kernel
theorem dX8_advances_146 : decode cX8_advances 146 = .ok (.bipush (-9), 2) := by decide +kernel
theorem dX8_advances_148 : decode cX8_advances 148 = .ok (.if_icmp .ne 7, 3) := by decide +kernel
theorem dX8_advances_151 : decode cX8_advances 151 = .ok (.iconst 5, 1) := by decide +kernel
theorem dX8_advances_152 : decode cX8_advances 152 = .ok (.goto 4, 3) := by decide +kernel
theorem dX8_advances_155 : decode cX8_advances 155 = .ok (.iconst 1, 1) := by decide +kernel
theorem dX8_advances_156 : decode cX8_advances 156 = .ok (.putfield 91, 3) := by decide +kernel
theorem dX8_advances_159 : decode cX8_advances 159 = .ok (.goto 166, 3) := by decide +kernel
theorem dX8_advances_162 : decode cX8_advances 162 = .ok (.iload_n 1, 1) := by decide +kernel
theorem dX8_advances_163 : decode cX8_advances 163 = .ok (.bipush 48, 2) := by decide +kernel
theorem dX8_advances_165 : decode cX8_advances 165 = .ok (.bipush 57, 2) := by decide +kernel
theorem dX8_advances_167 : decode cX8_advances 167 = .ok (.invokestatic 61, 3) := by decide +kernel
theorem dX8_advances_170 : decode cX8_advances 170 = .ok (.ifCond .eq 120, 3) := by decide +kernel
theorem dX8_advances_173 : decode cX8_advances 173 = .ok (.aload_n 0, 1) := by decide +kernel
theorem dX8_advances_174 : decode cX8_advances 174 = .ok (.iconst 0, 1) := by decide +kernel
theorem dX8_advances_175 : decode cX8_advances 175 = .ok (.putfield 98, 3) := by decide +kernel
theorem dX8_advances_178 : decode cX8_advances 178 = .ok (.aload_n 0, 1) := by decide +kernel
theorem dX8_advances_179 : decode cX8_advances 179 = .ok (.aload_n 0, 1) := by decide +kernel
theorem dX8_advances_180 : decode cX8_advances 180 = .ok (.getfield 81, 3) := by decide +kernel
theorem dX8_advances_183 : decode cX8_advances 183 = .ok (.invokevirtual 84, 3) := by decide +kernel
theorem dX8_advances_186 : decode cX8_advances 186 = .ok (.bipush 48, 2) := by decide +kernel
theorem dX8_advances_188 : decode cX8_advances 188 = .ok (.bipush 57, 2) := by decide +kernel
theorem dX8_advances_190 : decode cX8_advances 190 = .ok (.invokestatic 61, 3) := by decide +kernel
theorem dX8_advances_193 : decode cX8_advances 193 = .ok (.ifCond .eq 56, 3) := by decide +kernel
theorem dX8_advances_196 : decode cX8_advances 196 = .ok (.aload_n 0, 1) := by decide +kernel
theorem dX8_advances_197 : decode cX8_advances 197 = .ok (.aload_n 0, 1) := by decide +kernel
theorem dX8_advances_198 : decode cX8_advances 198 = .ok (.getfield 98, 3) := by decide +kernel
theorem dX8_advances_201 : decode cX8_advances 201 = .ok (.sipush 999, 3) := by decide +kernel
theorem dX8_advances_204 : decode cX8_advances 204 = .ok (.if_icmp .le 10, 3) := by decide +kernel
theorem dX8_advances_207 : decode cX8_advances 207 = .ok (.aload_n 0, 1) := by decide +kernel
theorem dX8_advances_208 : decode cX8_advances 208 = .ok (.getfield 98, 3) := by decide +kernel
theorem dX8_advances_211 : decode cX8_advances 211 = .ok (.goto 22, 3) := by decide +kernel
theorem dX8_advances_214 : decode cX8_advances 214 = .ok (.bipush 10, 2) := by decide +kernel
theorem dX8_advances_216 : decode cX8_advances 216 = .ok (.aload_n 0, 1) := by decide +kernel
theorem dX8_advances_217 : decode cX8_advances 217 = .ok (.getfield 98, 3) := by decide +kernel
theorem dX8_advances_220 : decode cX8_advances 220 = .ok (.imul, 1) := by decide +kernel
theorem dX8_advances_221 : decode cX8_advances 221 = .ok (.aload_n 0, 1) := by decide +kernel
theorem dX8_advances_222 : decode cX8_advances 222 = .ok (.aload_n 0, 1) := by decide +kernel
theorem dX8_advances_223 : decode cX8_advances 223 = .ok (.getfield 81, 3) := by decide +kernel
theorem dX8_advances_226 : decode cX8_advances 226 = .ok (.invokevirtual 84, 3) := by decide +kernel
theorem dX8_advances_229 : decode cX8_advances 229 = .ok (.iadd, 1) := by decide +kernel
theorem dX8_advances_230 : decode cX8_advances 230 = .ok (.bipush 48, 2) := by decide +kernel
theorem dX8_advances_232 : decode cX8_advances 232 = .ok (.isub, 1) := by decide +kernel
theorem dX8_advances_233 : decode cX8_advances 233 = .ok (.putfield 98, 3) := by decide +kernel
theorem dX8_advances_236 : decode cX8_advances 236 = .ok (.aload_n 0, 1) := by decide +kernel
theorem dX8_advances_237 : decode cX8_advances 237 = .ok (.dup, 1) := by decide +kernel
theorem dX8_advances_238 : decode cX8_advances 238 = .ok (.getfield 81, 3) := by decide +kernel
theorem dX8_advances_241 : decode cX8_advances 241 = .ok (.iconst 1, 1) := by decide +kernel
theorem dX8_advances_242 : decode cX8_advances 242 = .ok (.iadd, 1) := by decide +kernel
theorem dX8_advances_243 : decode cX8_advances 243 = .ok (.putfield 81, 3) := by decide +kernel
theorem dX8_advances_246 : decode cX8_advances 246 = .ok (.goto (-68), 3) := by decide +kernel
theorem dX8_advances_249 : decode cX8_advances 249 = .ok (.aload_n 0, 1) := by decide +kernel
theorem dX8_advances_250 : decode cX8_advances 250 = .ok (.aload_n 0, 1) := by decide +kernel
theorem dX8_advances_251 : decode cX8_advances 251 = .ok (.getfield 98, 3) := by decide +kernel
theorem dX8_advances_254 : decode cX8_advances 254 = .ok (.sipush 999, 3) := by decide +kernel
theorem dX8_advances_257 : decode cX8_advances 257 = .ok (.if_icmp .gt 22, 3) := by decide +kernel
theorem dX8_advances_260 : decode cX8_advances 260 = .ok (.iload_n 1, 1) := by decide +kernel
theorem dX8_advances_261 : decode cX8_advances 261 = .ok (.bipush 48, 2) := by decide +kernel
theorem dX8_advances_263 : decode cX8_advances 263 = .ok (.if_icmp .ne 20, 3) := by decide +kernel
theorem dX8_advances_266 : decode cX8_advances 266 = .ok (.aload_n 0, 1) := by decide +kernel
theorem dX8_advances_267 : decode cX8_advances 267 = .ok (.getfield 81, 3) := by decide +kernel
theorem dX8_advances_270 : decode cX8_advances 270 = .ok (.aload_n 0, 1) := by decide +kernel
theorem dX8_advances_271 : decode cX8_advances 271 = .ok (.getfield 88, 3) := by decide +kernel
theorem dX8_advances_274 : decode cX8_advances 274 = .ok (.isub, 1) := by decide +kernel
theorem dX8_advances_275 : decode cX8_advances 275 = .ok (.iconst 1, 1) := by decide +kernel
theorem dX8_advances_276 : decode cX8_advances 276 = .ok (.if_icmp .le 7, 3) := by decide +kernel
theorem dX8_advances_279 : decode cX8_advances 279 = .ok (.iconst 5, 1) := by decide +kernel
theorem dX8_advances_280 : decode cX8_advances 280 = .ok (.goto 4, 3) := by decide +kernel
theorem dX8_advances_283 : decode cX8_advances 283 = .ok (.iconst 2, 1) := by decide +kernel
theorem dX8_advances_284 : decode cX8_advances 284 = .ok (.putfield 91, 3) := by decide +kernel
theorem dX8_advances_287 : decode cX8_advances 287 = .ok (.goto 38, 3) := by decide +kernel
theorem dX8_advances_290 : decode cX8_advances 290 = .ok (.aload_n 0, 1) := by decide +kernel
theorem dX8_advances_291 : decode cX8_advances 291 = .ok (.dup, 1) := by decide +kernel
theorem dX8_advances_292 : decode cX8_advances 292 = .ok (.getfield 81, 3) := by decide +kernel
theorem dX8_advances_295 : decode cX8_advances 295 = .ok (.iconst 1, 1) := by decide +kernel
theorem dX8_advances_296 : decode cX8_advances 296 = .ok (.iadd, 1) := by decide +kernel
theorem dX8_advances_297 : decode cX8_advances 297 = .ok (.putfield 81, 3) := by decide +kernel
theorem dX8_advances_300 : decode cX8_advances 300 = .ok (.aload_n 0, 1) := by decide +kernel
theorem dX8_advances_301 : decode cX8_advances 301 = .ok (.iload_n 1, 1) := by decide +kernel
theorem dX8_advances_302 : decode cX8_advances 302 = .ok (.bipush 47, 2) := by decide +kernel
theorem dX8_advances_304 : decode cX8_advances 304 = .ok (.if_icmp .ne 7, 3) := by decide +kernel
theorem dX8_advances_307 : decode cX8_advances 307 = .ok (.iconst 3, 1) := by decide +kernel
theorem dX8_advances_308 : decode cX8_advances 308 = .ok (.goto 14, 3) := by decide +kernel
theorem dX8_advances_311 : decode cX8_advances 311 = .ok (.iload_n 1, 1) := by decide +kernel
theorem dX8_advances_312 : decode cX8_advances 312 = .ok (.bipush 59, 2) := by decide +kernel
theorem dX8_advances_314 : decode cX8_advances 314 = .ok (.if_icmp .ne 7, 3) := by decide +kernel
theorem dX8_advances_317 : decode cX8_advances 317 = .ok (.iconst 4, 1) := by decide +kernel
theorem dX8_advances_318 : decode cX8_advances 318 = .ok (.goto 4, 3) := by decide +kernel
theorem dX8_advances_321 : decode cX8_advances 321 = .ok (.iconst 5, 1) := by decide +kernel
theorem dX8_advances_322 : decode cX8_advances 322 = .ok (.putfield 91, 3) := by decide +kernel
theorem dX8_advances_325 : decode cX8_advances 325 = .ok (.return_, 1) := by decide +kernel
theorem dX8_isWell_0 : decode cX8_isWell 0 = .ok (.aload_n 0, 1) := by decide +kernel
theorem dX8_isWell_1 : decode cX8_isWell 1 = .ok (.getfield 101, 3) := by decide +kernel
theorem dX8_isWell_4 : decode cX8_isWell 4 = .ok (.ifCond .ge 7, 3) := by decide +kernel
theorem dX8_isWell_7 : decode cX8_isWell 7 = .ok (.iconst 1, 1) := by decide +kernel
theorem dX8_isWell_8 : decode cX8_isWell 8 = .ok (.goto 4, 3) := by decide +kernel
theorem dX8_isWell_11 : decode cX8_isWell 11 = .ok (.iconst 0, 1) := by decide +kernel
theorem dX8_isWell_12 : decode cX8_isWell 12 = .ok (.ireturn, 1) := by decide +kernel
theorem dX8_takes_0 : decode cX8_takes 0 = .ok (.aload_n 0, 1) := by decide +kernel
theorem dX8_takes_1 : decode cX8_takes 1 = .ok (.invokevirtual 104, 3) := by decide +kernel
theorem dX8_takes_4 : decode cX8_takes 4 = .ok (.ifCond .ne 5, 3) := by decide +kernel
theorem dX8_takes_7 : decode cX8_takes 7 = .ok (.iconst 0, 1) := by decide +kernel
theorem dX8_takes_8 : decode cX8_takes 8 = .ok (.ireturn, 1) := by decide +kernel
theorem dX8_takes_9 : decode cX8_takes 9 = .ok (.iload_n 1, 1) := by decide +kernel
theorem dX8_takes_10 : decode cX8_takes 10 = .ok (.ifCond .ne 13, 3) := by decide +kernel
theorem dX8_takes_13 : decode cX8_takes 13 = .ok (.aload_n 0, 1) := by decide +kernel
theorem dX8_takes_14 : decode cX8_takes 14 = .ok (.aload_n 0, 1) := by decide +kernel
theorem dX8_takes_15 : decode cX8_takes 15 = .ok (.getfield 88, 3) := by decide +kernel
theorem dX8_takes_18 : decode cX8_takes 18 = .ok (.putfield 101, 3) := by decide +kernel
theorem dX8_takes_21 : decode cX8_takes 21 = .ok (.iconst 0, 1) := by decide +kernel
theorem dX8_takes_22 : decode cX8_takes 22 = .ok (.ireturn, 1) := by decide +kernel
theorem dX8_takes_23 : decode cX8_takes 23 = .ok (.aload_n 0, 1) := by decide +kernel
theorem dX8_takes_24 : decode cX8_takes 24 = .ok (.getfield 98, 3) := by decide +kernel
theorem dX8_takes_27 : decode cX8_takes 27 = .ok (.istore_n 2, 1) := by decide +kernel
theorem dX8_takes_28 : decode cX8_takes 28 = .ok (.aload_n 0, 1) := by decide +kernel
theorem dX8_takes_29 : decode cX8_takes 29 = .ok (.invokevirtual 108, 3) := by decide +kernel
theorem dX8_takes_32 : decode cX8_takes 32 = .ok (.iload_n 2, 1) := by decide +kernel
theorem dX8_takes_33 : decode cX8_takes 33 = .ok (.ireturn, 1) := by decide +kernel
theorem dX8_takesNumber_0 : decode cX8_takesNumber 0 = .ok (.aload_n 0, 1) := by decide +kernel
theorem dX8_takesNumber_1 : decode cX8_takesNumber 1 = .ok (.aload_n 0, 1) := by decide +kernel
theorem dX8_takesNumber_2 : decode cX8_takesNumber 2 = .ok (.getfield 91, 3) := by decide +kernel
theorem dX8_takesNumber_5 : decode cX8_takesNumber 5 = .ok (.iconst 2, 1) := by decide +kernel
theorem dX8_takesNumber_6 : decode cX8_takesNumber 6 = .ok (.if_icmp .ne 19, 3) := by decide +kernel
theorem dX8_takesNumber_9 : decode cX8_takesNumber 9 = .ok (.aload_n 0, 1) := by decide +kernel
theorem dX8_takesNumber_10 : decode cX8_takesNumber 10 = .ok (.getfield 98, 3) := by decide +kernel
theorem dX8_takesNumber_13 : decode cX8_takesNumber 13 = .ok (.iload_n 1, 1) := by decide +kernel
theorem dX8_takesNumber_14 : decode cX8_takesNumber 14 = .ok (.iload_n 2, 1) := by decide +kernel
theorem dX8_takesNumber_15 : decode cX8_takesNumber 15 = .ok (.invokestatic 61, 3) := by decide +kernel
theorem dX8_takesNumber_18 : decode cX8_takesNumber 18 = .ok (.ifCond .eq 7, 3) := by decide +kernel
theorem dX8_takesNumber_21 : decode cX8_takesNumber 21 = .ok (.iconst 1, 1) := by decide +kernel
theorem dX8_takesNumber_22 : decode cX8_takesNumber 22 = .ok (.goto 4, 3) := by decide +kernel
theorem dX8_takesNumber_25 : decode cX8_takesNumber 25 = .ok (.iconst 0, 1) := by decide +kernel
theorem dX8_takesNumber_26 : decode cX8_takesNumber 26 = .ok (.invokevirtual 111, 3) := by decide +kernel
theorem dX8_takesNumber_29 : decode cX8_takesNumber 29 = .ok (.ireturn, 1) := by decide +kernel
theorem dX8_rule_0 : decode cX8_rule 0 = .ok (.aload_n 0, 1) := by decide +kernel
theorem dX8_rule_1 : decode cX8_rule 1 = .ok (.iconst 0, 1) := by decide +kernel
theorem dX8_rule_2 : decode cX8_rule 2 = .ok (.putfield 57, 3) := by decide +kernel
theorem dX8_rule_5 : decode cX8_rule 5 = .ok (.aload_n 0, 1) := by decide +kernel
theorem dX8_rule_6 : decode cX8_rule 6 = .ok (.iconst (-1), 1) := by decide +kernel
theorem dX8_rule_7 : decode cX8_rule 7 = .ok (.putfield 101, 3) := by decide +kernel
theorem dX8_rule_10 : decode cX8_rule 10 = .ok (.aload_n 0, 1) := by decide +kernel
theorem dX8_rule_11 : decode cX8_rule 11 = .ok (.iconst 0, 1) := by decide +kernel
theorem dX8_rule_12 : decode cX8_rule 12 = .ok (.putfield 81, 3) := by decide +kernel
theorem dX8_rule_15 : decode cX8_rule 15 = .ok (.iconst 0, 1) := by decide +kernel
theorem dX8_rule_16 : decode cX8_rule 16 = .ok (.istore_n 1, 1) := by decide +kernel
theorem dX8_rule_17 : decode cX8_rule 17 = .ok (.iconst 0, 1) := by decide +kernel
theorem dX8_rule_18 : decode cX8_rule 18 = .ok (.istore_n 2, 1) := by decide +kernel
theorem dX8_rule_19 : decode cX8_rule 19 = .ok (.aload_n 0, 1) := by decide +kernel
theorem dX8_rule_20 : decode cX8_rule 20 = .ok (.invokevirtual 54, 3) := by decide +kernel
theorem dX8_rule_23 : decode cX8_rule 23 = .ok (.aload_n 0, 1) := by decide +kernel
theorem dX8_rule_24 : decode cX8_rule 24 = .ok (.invokevirtual 108, 3) := by decide +kernel
theorem dX8_rule_27 : decode cX8_rule 27 = .ok (.aload_n 0, 1) := by decide +kernel
theorem dX8_rule_28 : decode cX8_rule 28 = .ok (.invokevirtual 104, 3) := by decide +kernel
theorem dX8_rule_31 : decode cX8_rule 31 = .ok (.ifCond .eq 221, 3) := by decide +kernel
theorem dX8_rule_34 : decode cX8_rule 34 = .ok (.aload_n 0, 1) := by decide +kernel
theorem dX8_rule_35 : decode cX8_rule 35 = .ok (.getfield 91, 3) := by decide +kernel
theorem dX8_rule_38 : decode cX8_rule 38 = .ok (.ifCond .eq 214, 3) := by decide +kernel
theorem dX8_rule_41 : decode cX8_rule 41 = .ok (.aload_n 0, 1) := by decide +kernel
theorem dX8_rule_42 : decode cX8_rule 42 = .ok (.aload_n 0, 1) := by decide +kernel
theorem dX8_rule_43 : decode cX8_rule 43 = .ok (.getfield 91, 3) := by decide +kernel
theorem dX8_rule_46 : decode cX8_rule 46 = .ok (.iconst 1, 1) := by decide +kernel
theorem dX8_rule_47 : decode cX8_rule 47 = .ok (.if_icmp .ne 26, 3) := by decide +kernel
theorem dX8_rule_50 : decode cX8_rule 50 = .ok (.aload_n 0, 1) := by decide +kernel
theorem dX8_rule_51 : decode cX8_rule 51 = .ok (.getfield 98, 3) := by decide +kernel
theorem dX8_rule_54 : decode cX8_rule 54 = .ok (.iconst 4, 1) := by decide +kernel
theorem dX8_rule_55 : decode cX8_rule 55 = .ok (.if_icmp .ge 18, 3) := by decide +kernel
theorem dX8_rule_58 : decode cX8_rule 58 = .ok (.iload_n 2, 1) := by decide +kernel
theorem dX8_rule_59 : decode cX8_rule 59 = .ok (.aload_n 0, 1) := by decide +kernel
theorem dX8_rule_60 : decode cX8_rule 60 = .ok (.getfield 98, 3) := by decide +kernel
theorem dX8_rule_63 : decode cX8_rule 63 = .ok (.ishr, 1) := by decide +kernel
theorem dX8_rule_64 : decode cX8_rule 64 = .ok (.iconst 1, 1) := by decide +kernel
theorem dX8_rule_65 : decode cX8_rule 65 = .ok (.iand, 1) := by decide +kernel
theorem dX8_rule_66 : decode cX8_rule 66 = .ok (.ifCond .ne 7, 3) := by decide +kernel
theorem dX8_rule_69 : decode cX8_rule 69 = .ok (.iconst 1, 1) := by decide +kernel
theorem dX8_rule_70 : decode cX8_rule 70 = .ok (.goto 4, 3) := by decide +kernel
theorem dX8_rule_73 : decode cX8_rule 73 = .ok (.iconst 0, 1) := by decide +kernel
theorem dX8_rule_74 : decode cX8_rule 74 = .ok (.invokevirtual 111, 3) := by decide +kernel
theorem dX8_rule_77 : decode cX8_rule 77 = .ok (.istore_n 3, 1) := by decide +kernel
theorem dX8_rule_78 : decode cX8_rule 78 = .ok (.iload_n 2, 1) := by decide +kernel
theorem dX8_rule_79 : decode cX8_rule 79 = .ok (.iconst 1, 1) := by decide +kernel
theorem dX8_rule_80 : decode cX8_rule 80 = .ok (.iload_n 3, 1) := by decide +kernel
theorem dX8_rule_81 : decode cX8_rule 81 = .ok (.ishl, 1) := by decide +kernel
theorem dX8_rule_82 : decode cX8_rule 82 = .ok (.ior, 1) := by decide +kernel
theorem dX8_rule_83 : decode cX8_rule 83 = .ok (.istore_n 2, 1) := by decide +kernel
theorem dX8_rule_84 : decode cX8_rule 84 = .ok (.iload_n 3, 1) := by decide +kernel
theorem dX8_rule_85 : decode cX8_rule 85 = .ok (.ifCond .ne 66, 3) := by decide +kernel
theorem dX8_rule_88 : decode cX8_rule 88 = .ok (.aload_n 0, 1) := by decide +kernel
theorem dX8_rule_89 : decode cX8_rule 89 = .ok (.getfield 23, 3) := by decide +kernel
theorem dX8_rule_92 : decode cX8_rule 92 = .ok (.bipush 6, 2) := by decide +kernel
theorem dX8_rule_94 : decode cX8_rule 94 = .ok (.aload_n 0, 1) := by decide +kernel
theorem dX8_rule_95 : decode cX8_rule 95 = .ok (.iconst 1, 1) := by decide +kernel
theorem dX8_rule_96 : decode cX8_rule 96 = .ok (.bipush 12, 2) := by decide +kernel
theorem dX8_rule_98 : decode cX8_rule 98 = .ok (.invokevirtual 115, 3) := by decide +kernel
theorem dX8_rule_101 : decode cX8_rule 101 = .ok (.iastore, 1) := by decide +kernel
theorem dX8_rule_102 : decode cX8_rule 102 = .ok (.aload_n 0, 1) := by decide +kernel
theorem dX8_rule_103 : decode cX8_rule 103 = .ok (.aload_n 0, 1) := by decide +kernel
theorem dX8_rule_104 : decode cX8_rule 104 = .ok (.getfield 91, 3) := by decide +kernel
theorem dX8_rule_107 : decode cX8_rule 107 = .ok (.iconst 1, 1) := by decide +kernel
theorem dX8_rule_108 : decode cX8_rule 108 = .ok (.if_icmp .ne 15, 3) := by decide +kernel
theorem dX8_rule_111 : decode cX8_rule 111 = .ok (.aload_n 0, 1) := by decide +kernel
theorem dX8_rule_112 : decode cX8_rule 112 = .ok (.getfield 98, 3) := by decide +kernel
theorem dX8_rule_115 : decode cX8_rule 115 = .ok (.iconst 4, 1) := by decide +kernel
theorem dX8_rule_116 : decode cX8_rule 116 = .ok (.if_icmp .ne 7, 3) := by decide +kernel
theorem dX8_rule_119 : decode cX8_rule 119 = .ok (.iconst 1, 1) := by decide +kernel
theorem dX8_rule_120 : decode cX8_rule 120 = .ok (.goto 4, 3) := by decide +kernel
theorem dX8_rule_123 : decode cX8_rule 123 = .ok (.iconst 0, 1) := by decide +kernel
theorem dX8_rule_124 : decode cX8_rule 124 = .ok (.invokevirtual 111, 3) := by decide +kernel
theorem dX8_rule_127 : decode cX8_rule 127 = .ok (.pop, 1) := by decide +kernel
theorem dX8_rule_128 : decode cX8_rule 128 = .ok (.aload_n 0, 1) := by decide +kernel
theorem dX8_rule_129 : decode cX8_rule 129 = .ok (.getfield 23, 3) := by decide +kernel
theorem dX8_rule_132 : decode cX8_rule 132 = .ok (.bipush 7, 2) := by decide +kernel
theorem dX8_rule_134 : decode cX8_rule 134 = .ok (.aload_n 0, 1) := by decide +kernel
theorem dX8_rule_135 : decode cX8_rule 135 = .ok (.aload_n 0, 1) := by decide +kernel
theorem dX8_rule_136 : decode cX8_rule 136 = .ok (.getfield 23, 3) := by decide +kernel
theorem dX8_rule_139 : decode cX8_rule 139 = .ok (.bipush 6, 2) := by decide +kernel
theorem dX8_rule_141 : decode cX8_rule 141 = .ok (.iaload, 1) := by decide +kernel
theorem dX8_rule_142 : decode cX8_rule 142 = .ok (.bipush 12, 2) := by decide +kernel
theorem dX8_rule_144 : decode cX8_rule 144 = .ok (.invokevirtual 115, 3) := by decide +kernel
theorem dX8_rule_147 : decode cX8_rule 147 = .ok (.iastore, 1) := by decide +kernel
theorem dX8_rule_148 : decode cX8_rule 148 = .ok (.goto 80, 3) := by decide +kernel
theorem dX8_rule_151 : decode cX8_rule 151 = .ok (.iload_n 3, 1) := by decide +kernel
theorem dX8_rule_152 : decode cX8_rule 152 = .ok (.iconst 1, 1) := by decide +kernel
theorem dX8_rule_153 : decode cX8_rule 153 = .ok (.if_icmp .ne 58, 3) := by decide +kernel
theorem dX8_rule_156 : decode cX8_rule 156 = .ok (.aload_n 0, 1) := by decide +kernel
theorem dX8_rule_157 : decode cX8_rule 157 = .ok (.getfield 23, 3) := by decide +kernel
theorem dX8_rule_160 : decode cX8_rule 160 = .ok (.bipush 8, 2) := by decide +kernel
theorem dX8_rule_162 : decode cX8_rule 162 = .ok (.aload_n 0, 1) := by decide +kernel
theorem dX8_rule_163 : decode cX8_rule 163 = .ok (.iconst 1, 1) := by decide +kernel
theorem dX8_rule_164 : decode cX8_rule 164 = .ok (.bipush 20, 2) := by decide +kernel
theorem dX8_rule_166 : decode cX8_rule 166 = .ok (.invokevirtual 115, 3) := by decide +kernel
theorem dX8_rule_169 : decode cX8_rule 169 = .ok (.iastore, 1) := by decide +kernel
theorem dX8_rule_170 : decode cX8_rule 170 = .ok (.aload_n 0, 1) := by decide +kernel
theorem dX8_rule_171 : decode cX8_rule 171 = .ok (.aload_n 0, 1) := by decide +kernel
theorem dX8_rule_172 : decode cX8_rule 172 = .ok (.getfield 91, 3) := by decide +kernel
theorem dX8_rule_175 : decode cX8_rule 175 = .ok (.iconst 3, 1) := by decide +kernel
theorem dX8_rule_176 : decode cX8_rule 176 = .ok (.if_icmp .ne 7, 3) := by decide +kernel
theorem dX8_rule_179 : decode cX8_rule 179 = .ok (.iconst 1, 1) := by decide +kernel
theorem dX8_rule_180 : decode cX8_rule 180 = .ok (.goto 4, 3) := by decide +kernel
theorem dX8_rule_183 : decode cX8_rule 183 = .ok (.iconst 0, 1) := by decide +kernel
theorem dX8_rule_184 : decode cX8_rule 184 = .ok (.invokevirtual 111, 3) := by decide +kernel
theorem dX8_rule_187 : decode cX8_rule 187 = .ok (.pop, 1) := by decide +kernel
theorem dX8_rule_188 : decode cX8_rule 188 = .ok (.aload_n 0, 1) := by decide +kernel
theorem dX8_rule_189 : decode cX8_rule 189 = .ok (.getfield 23, 3) := by decide +kernel
theorem dX8_rule_192 : decode cX8_rule 192 = .ok (.bipush 9, 2) := by decide +kernel
theorem dX8_rule_194 : decode cX8_rule 194 = .ok (.aload_n 0, 1) := by decide +kernel
theorem dX8_rule_195 : decode cX8_rule 195 = .ok (.aload_n 0, 1) := by decide +kernel
theorem dX8_rule_196 : decode cX8_rule 196 = .ok (.getfield 23, 3) := by decide +kernel
theorem dX8_rule_199 : decode cX8_rule 199 = .ok (.bipush 8, 2) := by decide +kernel
theorem dX8_rule_201 : decode cX8_rule 201 = .ok (.iaload, 1) := by decide +kernel
theorem dX8_rule_202 : decode cX8_rule 202 = .ok (.bipush 20, 2) := by decide +kernel
theorem dX8_rule_204 : decode cX8_rule 204 = .ok (.invokevirtual 115, 3) := by decide +kernel
theorem dX8_rule_207 : decode cX8_rule 207 = .ok (.iastore, 1) := by decide +kernel
theorem dX8_rule_208 : decode cX8_rule 208 = .ok (.goto 20, 3) := by decide +kernel
theorem dX8_rule_211 : decode cX8_rule 211 = .ok (.aload_n 0, 1) := by decide +kernel
theorem dX8_rule_212 : decode cX8_rule 212 = .ok (.getfield 23, 3) := by decide +kernel
theorem dX8_rule_215 : decode cX8_rule 215 = .ok (.bipush 8, 2) := by decide +kernel
theorem dX8_rule_217 : decode cX8_rule 217 = .ok (.iload_n 3, 1) := by decide +kernel
theorem dX8_rule_218 : decode cX8_rule 218 = .ok (.iadd, 1) := by decide +kernel
theorem dX8_rule_219 : decode cX8_rule 219 = .ok (.aload_n 0, 1) := by decide +kernel
theorem dX8_rule_220 : decode cX8_rule 220 = .ok (.iconst 0, 1) := by decide +kernel
theorem dX8_rule_221 : decode cX8_rule 221 = .ok (.sipush 200, 3) := by decide +kernel
theorem dX8_rule_224 : decode cX8_rule 224 = .ok (.invokevirtual 115, 3) := by decide +kernel
theorem dX8_rule_227 : decode cX8_rule 227 = .ok (.iastore, 1) := by decide +kernel
theorem dX8_rule_228 : decode cX8_rule 228 = .ok (.aload_n 0, 1) := by decide +kernel
theorem dX8_rule_229 : decode cX8_rule 229 = .ok (.aload_n 0, 1) := by decide +kernel
theorem dX8_rule_230 : decode cX8_rule 230 = .ok (.getfield 91, 3) := by decide +kernel
theorem dX8_rule_233 : decode cX8_rule 233 = .ok (.iconst 4, 1) := by decide +kernel
theorem dX8_rule_234 : decode cX8_rule 234 = .ok (.if_icmp .ne 7, 3) := by decide +kernel
theorem dX8_rule_237 : decode cX8_rule 237 = .ok (.iconst 1, 1) := by decide +kernel
theorem dX8_rule_238 : decode cX8_rule 238 = .ok (.goto 4, 3) := by decide +kernel
theorem dX8_rule_241 : decode cX8_rule 241 = .ok (.iconst 0, 1) := by decide +kernel
theorem dX8_rule_242 : decode cX8_rule 242 = .ok (.invokevirtual 111, 3) := by decide +kernel
theorem dX8_rule_245 : decode cX8_rule 245 = .ok (.pop, 1) := by decide +kernel
theorem dX8_rule_246 : decode cX8_rule 246 = .ok (.iinc 1 1, 3) := by decide +kernel
theorem dX8_rule_249 : decode cX8_rule 249 = .ok (.goto (-222), 3) := by decide +kernel
theorem dX8_rule_252 : decode cX8_rule 252 = .ok (.aload_n 0, 1) := by decide +kernel
theorem dX8_rule_253 : decode cX8_rule 253 = .ok (.invokevirtual 104, 3) := by decide +kernel
theorem dX8_rule_256 : decode cX8_rule 256 = .ok (.ifCond .ne 11, 3) := by decide +kernel
theorem dX8_rule_259 : decode cX8_rule 259 = .ok (.bipush (-10), 2) := by decide +kernel
theorem dX8_rule_261 : decode cX8_rule 261 = .ok (.aload_n 0, 1) := by decide +kernel
theorem dX8_rule_262 : decode cX8_rule 262 = .ok (.getfield 101, 3) := by decide +kernel
theorem dX8_rule_265 : decode cX8_rule 265 = .ok (.isub, 1) := by decide +kernel
theorem dX8_rule_266 : decode cX8_rule 266 = .ok (.ireturn, 1) := by decide +kernel
theorem dX8_rule_267 : decode cX8_rule 267 = .ok (.iconst 0, 1) := by decide +kernel
theorem dX8_rule_268 : decode cX8_rule 268 = .ok (.istore_n 3, 1) := by decide +kernel
theorem dX8_rule_269 : decode cX8_rule 269 = .ok (.iload_n 3, 1) := by decide +kernel
theorem dX8_rule_270 : decode cX8_rule 270 = .ok (.bipush 6, 2) := by decide +kernel
theorem dX8_rule_272 : decode cX8_rule 272 = .ok (.if_icmp .ge 24, 3) := by decide +kernel
theorem dX8_rule_275 : decode cX8_rule 275 = .ok (.aload_n 0, 1) := by decide +kernel
theorem dX8_rule_276 : decode cX8_rule 276 = .ok (.getfield 23, 3) := by decide +kernel
theorem dX8_rule_279 : decode cX8_rule 279 = .ok (.iload_n 3, 1) := by decide +kernel
theorem dX8_rule_280 : decode cX8_rule 280 = .ok (.aload_n 0, 1) := by decide +kernel
theorem dX8_rule_281 : decode cX8_rule 281 = .ok (.getfield 23, 3) := by decide +kernel
theorem dX8_rule_284 : decode cX8_rule 284 = .ok (.bipush 6, 2) := by decide +kernel
theorem dX8_rule_286 : decode cX8_rule 286 = .ok (.iload_n 3, 1) := by decide +kernel
theorem dX8_rule_287 : decode cX8_rule 287 = .ok (.iadd, 1) := by decide +kernel
theorem dX8_rule_288 : decode cX8_rule 288 = .ok (.iaload, 1) := by decide +kernel
theorem dX8_rule_289 : decode cX8_rule 289 = .ok (.iastore, 1) := by decide +kernel
theorem dX8_rule_290 : decode cX8_rule 290 = .ok (.iinc 3 1, 3) := by decide +kernel
theorem dX8_rule_293 : decode cX8_rule 293 = .ok (.goto (-24), 3) := by decide +kernel
theorem dX8_rule_296 : decode cX8_rule 296 = .ok (.aload_n 0, 1) := by decide +kernel
theorem dX8_rule_297 : decode cX8_rule 297 = .ok (.iconst 0, 1) := by decide +kernel
theorem dX8_rule_298 : decode cX8_rule 298 = .ok (.putfield 70, 3) := by decide +kernel
theorem dX8_rule_301 : decode cX8_rule 301 = .ok (.iload_n 1, 1) := by decide +kernel
theorem dX8_rule_302 : decode cX8_rule 302 = .ok (.ireturn, 1) := by decide +kernel
theorem dX8_told_0 : decode cX8_told 0 = .ok (.aload_n 0, 1) := by decide +kernel
theorem dX8_told_1 : decode cX8_told 1 = .ok (.iconst 0, 1) := by decide +kernel
theorem dX8_told_2 : decode cX8_told 2 = .ok (.putfield 57, 3) := by decide +kernel
theorem dX8_told_5 : decode cX8_told 5 = .ok (.iload_n 1, 1) := by decide +kernel
theorem dX8_told_6 : decode cX8_told 6 = .ok (.iconst 0, 1) := by decide +kernel
theorem dX8_told_7 : decode cX8_told 7 = .ok (.iconst 5, 1) := by decide +kernel
theorem dX8_told_8 : decode cX8_told 8 = .ok (.invokestatic 61, 3) := by decide +kernel
theorem dX8_told_11 : decode cX8_told 11 = .ok (.ifCond .eq 12, 3) := by decide +kernel
theorem dX8_told_14 : decode cX8_told 14 = .ok (.aload_n 0, 1) := by decide +kernel
theorem dX8_told_15 : decode cX8_told 15 = .ok (.getfield 23, 3) := by decide +kernel
theorem dX8_told_18 : decode cX8_told 18 = .ok (.iload_n 1, 1) := by decide +kernel
theorem dX8_told_19 : decode cX8_told 19 = .ok (.iaload, 1) := by decide +kernel
theorem dX8_told_20 : decode cX8_told 20 = .ok (.goto 4, 3) := by decide +kernel
theorem dX8_told_23 : decode cX8_told 23 = .ok (.iconst (-1), 1) := by decide +kernel
theorem dX8_told_24 : decode cX8_told 24 = .ok (.ireturn, 1) := by decide +kernel
theorem dX8_floor_0 : decode cX8_floor 0 = .ok (.iload_n 0, 1) := by decide +kernel
theorem dX8_floor_1 : decode cX8_floor 1 = .ok (.iload_n 1, 1) := by decide +kernel
theorem dX8_floor_2 : decode cX8_floor 2 = .ok (.idiv, 1) := by decide +kernel
theorem dX8_floor_3 : decode cX8_floor 3 = .ok (.istore_n 2, 1) := by decide +kernel
theorem dX8_floor_4 : decode cX8_floor 4 = .ok (.iload_n 0, 1) := by decide +kernel
theorem dX8_floor_5 : decode cX8_floor 5 = .ok (.iload_n 1, 1) := by decide +kernel
theorem dX8_floor_6 : decode cX8_floor 6 = .ok (.irem, 1) := by decide +kernel
theorem dX8_floor_7 : decode cX8_floor 7 = .ok (.ifCond .ge 9, 3) := by decide +kernel
theorem dX8_floor_10 : decode cX8_floor 10 = .ok (.iload_n 2, 1) := by decide +kernel
theorem dX8_floor_11 : decode cX8_floor 11 = .ok (.iconst 1, 1) := by decide +kernel
theorem dX8_floor_12 : decode cX8_floor 12 = .ok (.isub, 1) := by decide +kernel
theorem dX8_floor_13 : decode cX8_floor 13 = .ok (.goto 4, 3) := by decide +kernel
theorem dX8_floor_16 : decode cX8_floor 16 = .ok (.iload_n 2, 1) := by decide +kernel
theorem dX8_floor_17 : decode cX8_floor 17 = .ok (.ireturn, 1) := by decide +kernel
theorem dX8_moved_0 : decode cX8_moved 0 = .ok (.bipush 11, 2) := by decide +kernel
theorem dX8_moved_2 : decode cX8_moved 2 = .ok (.istore_n 3, 1) := by decide +kernel
theorem dX8_moved_3 : decode cX8_moved 3 = .ok (.iload_n 3, 1) := by decide +kernel
theorem dX8_moved_4 : decode cX8_moved 4 = .ok (.ifCond .le 23, 3) := by decide +kernel
theorem dX8_moved_7 : decode cX8_moved 7 = .ok (.aload_n 0, 1) := by decide +kernel
theorem dX8_moved_8 : decode cX8_moved 8 = .ok (.getfield 38, 3) := by decide +kernel
theorem dX8_moved_11 : decode cX8_moved 11 = .ok (.iload_n 3, 1) := by decide +kernel
theorem dX8_moved_12 : decode cX8_moved 12 = .ok (.aload_n 0, 1) := by decide +kernel
theorem dX8_moved_13 : decode cX8_moved 13 = .ok (.getfield 38, 3) := by decide +kernel
theorem dX8_moved_16 : decode cX8_moved 16 = .ok (.iload_n 3, 1) := by decide +kernel
theorem dX8_moved_17 : decode cX8_moved 17 = .ok (.iconst 1, 1) := by decide +kernel
theorem dX8_moved_18 : decode cX8_moved 18 = .ok (.isub, 1) := by decide +kernel
theorem dX8_moved_19 : decode cX8_moved 19 = .ok (.iaload, 1) := by decide +kernel
theorem dX8_moved_20 : decode cX8_moved 20 = .ok (.iastore, 1) := by decide +kernel
theorem dX8_moved_21 : decode cX8_moved 21 = .ok (.iinc 3 (-1), 3) := by decide +kernel
theorem dX8_moved_24 : decode cX8_moved 24 = .ok (.goto (-21), 3) := by decide +kernel
theorem dX8_moved_27 : decode cX8_moved 27 = .ok (.aload_n 0, 1) := by decide +kernel
theorem dX8_moved_28 : decode cX8_moved 28 = .ok (.getfield 38, 3) := by decide +kernel
theorem dX8_moved_31 : decode cX8_moved 31 = .ok (.iconst 0, 1) := by decide +kernel
theorem dX8_moved_32 : decode cX8_moved 32 = .ok (.iload_n 2, 1) := by decide +kernel
theorem dX8_moved_33 : decode cX8_moved 33 = .ok (.iastore, 1) := by decide +kernel
theorem dX8_moved_34 : decode cX8_moved 34 = .ok (.aload_n 0, 1) := by decide +kernel
theorem dX8_moved_35 : decode cX8_moved 35 = .ok (.dup, 1) := by decide +kernel
theorem dX8_moved_36 : decode cX8_moved 36 = .ok (.getfield 119, 3) := by decide +kernel
theorem dX8_moved_39 : decode cX8_moved 39 = .ok (.aload_n 0, 1) := by decide +kernel
theorem dX8_moved_40 : decode cX8_moved 40 = .ok (.getfield 119, 3) := by decide +kernel
theorem dX8_moved_43 : decode cX8_moved 43 = .ok (.bipush 12, 2) := by decide +kernel
theorem dX8_moved_45 : decode cX8_moved 45 = .ok (.if_icmp .ge 7, 3) := by decide +kernel
theorem dX8_moved_48 : decode cX8_moved 48 = .ok (.iconst 1, 1) := by decide +kernel
theorem dX8_moved_49 : decode cX8_moved 49 = .ok (.goto 4, 3) := by decide +kernel
theorem dX8_moved_52 : decode cX8_moved 52 = .ok (.iconst 0, 1) := by decide +kernel
theorem dX8_moved_53 : decode cX8_moved 53 = .ok (.iadd, 1) := by decide +kernel
theorem dX8_moved_54 : decode cX8_moved 54 = .ok (.putfield 119, 3) := by decide +kernel
theorem dX8_moved_57 : decode cX8_moved 57 = .ok (.aload_n 0, 1) := by decide +kernel
theorem dX8_moved_58 : decode cX8_moved 58 = .ok (.getfield 119, 3) := by decide +kernel
theorem dX8_moved_61 : decode cX8_moved 61 = .ok (.aload_n 0, 1) := by decide +kernel
theorem dX8_moved_62 : decode cX8_moved 62 = .ok (.getfield 23, 3) := by decide +kernel
theorem dX8_moved_65 : decode cX8_moved 65 = .ok (.iconst 1, 1) := by decide +kernel
theorem dX8_moved_66 : decode cX8_moved 66 = .ok (.iaload, 1) := by decide +kernel
theorem dX8_moved_67 : decode cX8_moved 67 = .ok (.if_icmp .ge 10, 3) := by decide +kernel
theorem dX8_moved_70 : decode cX8_moved 70 = .ok (.aload_n 0, 1) := by decide +kernel
theorem dX8_moved_71 : decode cX8_moved 71 = .ok (.getfield 119, 3) := by decide +kernel
theorem dX8_moved_74 : decode cX8_moved 74 = .ok (.goto 9, 3) := by decide +kernel
theorem dX8_moved_77 : decode cX8_moved 77 = .ok (.aload_n 0, 1) := by decide +kernel
theorem dX8_moved_78 : decode cX8_moved 78 = .ok (.getfield 23, 3) := by decide +kernel
theorem dX8_moved_81 : decode cX8_moved 81 = .ok (.iconst 1, 1) := by decide +kernel
theorem dX8_moved_82 : decode cX8_moved 82 = .ok (.iaload, 1) := by decide +kernel
theorem dX8_moved_83 : decode cX8_moved 83 = .ok (.istore_n 3, 1) := by decide +kernel
theorem dX8_moved_84 : decode cX8_moved 84 = .ok (.iconst 0, 1) := by decide +kernel
theorem dX8_moved_85 : decode cX8_moved 85 = .ok (.istore 4, 2) := by decide +kernel
theorem dX8_moved_87 : decode cX8_moved 87 = .ok (.iload 4, 2) := by decide +kernel
theorem dX8_moved_89 : decode cX8_moved 89 = .ok (.iload_n 3, 1) := by decide +kernel
theorem dX8_moved_90 : decode cX8_moved 90 = .ok (.if_icmp .ge 101, 3) := by decide +kernel
theorem dX8_moved_93 : decode cX8_moved 93 = .ok (.aload_n 0, 1) := by decide +kernel
theorem dX8_moved_94 : decode cX8_moved 94 = .ok (.getfield 38, 3) := by decide +kernel
theorem dX8_moved_97 : decode cX8_moved 97 = .ok (.iload 4, 2) := by decide +kernel
theorem dX8_moved_99 : decode cX8_moved 99 = .ok (.iaload, 1) := by decide +kernel
theorem dX8_moved_100 : decode cX8_moved 100 = .ok (.iload_n 1, 1) := by decide +kernel
theorem dX8_moved_101 : decode cX8_moved 101 = .ok (.aload_n 0, 1) := by decide +kernel
theorem dX8_moved_102 : decode cX8_moved 102 = .ok (.getfield 23, 3) := by decide +kernel
theorem dX8_moved_105 : decode cX8_moved 105 = .ok (.iconst 5, 1) := by decide +kernel
theorem dX8_moved_106 : decode cX8_moved 106 = .ok (.iaload, 1) := by decide +kernel
theorem dX8_moved_107 : decode cX8_moved 107 = .ok (.iadd, 1) := by decide +kernel
theorem dX8_moved_108 : decode cX8_moved 108 = .ok (.if_icmp .le 14, 3) := by decide +kernel
theorem dX8_moved_111 : decode cX8_moved 111 = .ok (.iload_n 1, 1) := by decide +kernel
theorem dX8_moved_112 : decode cX8_moved 112 = .ok (.aload_n 0, 1) := by decide +kernel
theorem dX8_moved_113 : decode cX8_moved 113 = .ok (.getfield 23, 3) := by decide +kernel
theorem dX8_moved_116 : decode cX8_moved 116 = .ok (.iconst 5, 1) := by decide +kernel
theorem dX8_moved_117 : decode cX8_moved 117 = .ok (.iaload, 1) := by decide +kernel
theorem dX8_moved_118 : decode cX8_moved 118 = .ok (.iadd, 1) := by decide +kernel
theorem dX8_moved_119 : decode cX8_moved 119 = .ok (.goto 10, 3) := by decide +kernel
theorem dX8_moved_122 : decode cX8_moved 122 = .ok (.aload_n 0, 1) := by decide +kernel
theorem dX8_moved_123 : decode cX8_moved 123 = .ok (.getfield 38, 3) := by decide +kernel
theorem dX8_moved_126 : decode cX8_moved 126 = .ok (.iload 4, 2) := by decide +kernel
theorem dX8_moved_128 : decode cX8_moved 128 = .ok (.iaload, 1) := by decide +kernel
theorem dX8_moved_129 : decode cX8_moved 129 = .ok (.istore 5, 2) := by decide +kernel
theorem dX8_moved_131 : decode cX8_moved 131 = .ok (.iload 4, 2) := by decide +kernel
theorem dX8_moved_133 : decode cX8_moved 133 = .ok (.istore 6, 2) := by decide +kernel
theorem dX8_moved_135 : decode cX8_moved 135 = .ok (.iload 6, 2) := by decide +kernel
theorem dX8_moved_137 : decode cX8_moved 137 = .ok (.ifCond .le 39, 3) := by decide +kernel
theorem dX8_moved_140 : decode cX8_moved 140 = .ok (.aload_n 0, 1) := by decide +kernel
theorem dX8_moved_141 : decode cX8_moved 141 = .ok (.getfield 41, 3) := by decide +kernel
theorem dX8_moved_144 : decode cX8_moved 144 = .ok (.iload 6, 2) := by decide +kernel
theorem dX8_moved_146 : decode cX8_moved 146 = .ok (.iconst 1, 1) := by decide +kernel
theorem dX8_moved_147 : decode cX8_moved 147 = .ok (.isub, 1) := by decide +kernel
theorem dX8_moved_148 : decode cX8_moved 148 = .ok (.iaload, 1) := by decide +kernel
theorem dX8_moved_149 : decode cX8_moved 149 = .ok (.iload 5, 2) := by decide +kernel
theorem dX8_moved_151 : decode cX8_moved 151 = .ok (.if_icmp .ge 25, 3) := by decide +kernel
theorem dX8_moved_154 : decode cX8_moved 154 = .ok (.aload_n 0, 1) := by decide +kernel
theorem dX8_moved_155 : decode cX8_moved 155 = .ok (.getfield 41, 3) := by decide +kernel
theorem dX8_moved_158 : decode cX8_moved 158 = .ok (.iload 6, 2) := by decide +kernel
theorem dX8_moved_160 : decode cX8_moved 160 = .ok (.aload_n 0, 1) := by decide +kernel
theorem dX8_moved_161 : decode cX8_moved 161 = .ok (.getfield 41, 3) := by decide +kernel
theorem dX8_moved_164 : decode cX8_moved 164 = .ok (.iload 6, 2) := by decide +kernel
theorem dX8_moved_166 : decode cX8_moved 166 = .ok (.iconst 1, 1) := by decide +kernel
theorem dX8_moved_167 : decode cX8_moved 167 = .ok (.isub, 1) := by decide +kernel
theorem dX8_moved_168 : decode cX8_moved 168 = .ok (.iaload, 1) := by decide +kernel
theorem dX8_moved_169 : decode cX8_moved 169 = .ok (.iastore, 1) := by decide +kernel
theorem dX8_moved_170 : decode cX8_moved 170 = .ok (.iinc 6 (-1), 3) := by decide +kernel
theorem dX8_moved_173 : decode cX8_moved 173 = .ok (.goto (-38), 3) := by decide +kernel
theorem dX8_moved_176 : decode cX8_moved 176 = .ok (.aload_n 0, 1) := by decide +kernel
theorem dX8_moved_177 : decode cX8_moved 177 = .ok (.getfield 41, 3) := by decide +kernel
theorem dX8_moved_180 : decode cX8_moved 180 = .ok (.iload 6, 2) := by decide +kernel
theorem dX8_moved_182 : decode cX8_moved 182 = .ok (.iload 5, 2) := by decide +kernel
theorem dX8_moved_184 : decode cX8_moved 184 = .ok (.iastore, 1) := by decide +kernel
theorem dX8_moved_185 : decode cX8_moved 185 = .ok (.iinc 4 1, 3) := by decide +kernel
theorem dX8_moved_188 : decode cX8_moved 188 = .ok (.goto (-101), 3) := by decide +kernel
theorem dX8_moved_191 : decode cX8_moved 191 = .ok (.iload_n 3, 1) := by decide +kernel
theorem dX8_moved_192 : decode cX8_moved 192 = .ok (.aload_n 0, 1) := by decide +kernel
theorem dX8_moved_193 : decode cX8_moved 193 = .ok (.getfield 23, 3) := by decide +kernel
theorem dX8_moved_196 : decode cX8_moved 196 = .ok (.iconst 0, 1) := by decide +kernel
theorem dX8_moved_197 : decode cX8_moved 197 = .ok (.iaload, 1) := by decide +kernel
theorem dX8_moved_198 : decode cX8_moved 198 = .ok (.if_icmp .ge 7, 3) := by decide +kernel
theorem dX8_moved_201 : decode cX8_moved 201 = .ok (.iload_n 3, 1) := by decide +kernel
theorem dX8_moved_202 : decode cX8_moved 202 = .ok (.goto 9, 3) := by decide +kernel
theorem dX8_moved_205 : decode cX8_moved 205 = .ok (.aload_n 0, 1) := by decide +kernel
theorem dX8_moved_206 : decode cX8_moved 206 = .ok (.getfield 23, 3) := by decide +kernel
theorem dX8_moved_209 : decode cX8_moved 209 = .ok (.iconst 0, 1) := by decide +kernel
theorem dX8_moved_210 : decode cX8_moved 210 = .ok (.iaload, 1) := by decide +kernel
theorem dX8_moved_211 : decode cX8_moved 211 = .ok (.istore 4, 2) := by decide +kernel
theorem dX8_moved_213 : decode cX8_moved 213 = .ok (.iconst 0, 1) := by decide +kernel
theorem dX8_moved_214 : decode cX8_moved 214 = .ok (.istore 5, 2) := by decide +kernel
theorem dX8_moved_216 : decode cX8_moved 216 = .ok (.iconst 0, 1) := by decide +kernel
theorem dX8_moved_217 : decode cX8_moved 217 = .ok (.istore 6, 2) := by decide +kernel
theorem dX8_moved_219 : decode cX8_moved 219 = .ok (.iload 6, 2) := by decide +kernel
theorem dX8_moved_221 : decode cX8_moved 221 = .ok (.iload 4, 2) := by decide +kernel
theorem dX8_moved_223 : decode cX8_moved 223 = .ok (.if_icmp .ge 21, 3) := by decide +kernel
theorem dX8_moved_226 : decode cX8_moved 226 = .ok (.iload 5, 2) := by decide +kernel
theorem dX8_moved_228 : decode cX8_moved 228 = .ok (.aload_n 0, 1) := by decide +kernel
theorem dX8_moved_229 : decode cX8_moved 229 = .ok (.getfield 41, 3) := by decide +kernel
theorem dX8_moved_232 : decode cX8_moved 232 = .ok (.iload 6, 2) := by decide +kernel
theorem dX8_moved_234 : decode cX8_moved 234 = .ok (.iaload, 1) := by decide +kernel
theorem dX8_moved_235 : decode cX8_moved 235 = .ok (.iadd, 1) := by decide +kernel
theorem dX8_moved_236 : decode cX8_moved 236 = .ok (.istore 5, 2) := by decide +kernel
theorem dX8_moved_238 : decode cX8_moved 238 = .ok (.iinc 6 1, 3) := by decide +kernel
theorem dX8_moved_241 : decode cX8_moved 241 = .ok (.goto (-22), 3) := by decide +kernel
theorem dX8_moved_244 : decode cX8_moved 244 = .ok (.aload_n 0, 1) := by decide +kernel
theorem dX8_moved_245 : decode cX8_moved 245 = .ok (.getfield 23, 3) := by decide +kernel
theorem dX8_moved_248 : decode cX8_moved 248 = .ok (.iconst 2, 1) := by decide +kernel
theorem dX8_moved_249 : decode cX8_moved 249 = .ok (.iaload, 1) := by decide +kernel
theorem dX8_moved_250 : decode cX8_moved 250 = .ok (.iload 5, 2) := by decide +kernel
theorem dX8_moved_252 : decode cX8_moved 252 = .ok (.iload 4, 2) := by decide +kernel
theorem dX8_moved_254 : decode cX8_moved 254 = .ok (.invokestatic 122, 3) := by decide +kernel
theorem dX8_moved_257 : decode cX8_moved 257 = .ok (.iload_n 1, 1) := by decide +kernel
theorem dX8_moved_258 : decode cX8_moved 258 = .ok (.isub, 1) := by decide +kernel
theorem dX8_moved_259 : decode cX8_moved 259 = .ok (.imul, 1) := by decide +kernel
theorem dX8_moved_260 : decode cX8_moved 260 = .ok (.aload_n 0, 1) := by decide +kernel
theorem dX8_moved_261 : decode cX8_moved 261 = .ok (.getfield 23, 3) := by decide +kernel
theorem dX8_moved_264 : decode cX8_moved 264 = .ok (.iconst 3, 1) := by decide +kernel
theorem dX8_moved_265 : decode cX8_moved 265 = .ok (.iaload, 1) := by decide +kernel
theorem dX8_moved_266 : decode cX8_moved 266 = .ok (.idiv, 1) := by decide +kernel
theorem dX8_moved_267 : decode cX8_moved 267 = .ok (.istore 6, 2) := by decide +kernel
theorem dX8_moved_269 : decode cX8_moved 269 = .ok (.iload_n 1, 1) := by decide +kernel
theorem dX8_moved_270 : decode cX8_moved 270 = .ok (.iload 6, 2) := by decide +kernel
theorem dX8_moved_272 : decode cX8_moved 272 = .ok (.aload_n 0, 1) := by decide +kernel
theorem dX8_moved_273 : decode cX8_moved 273 = .ok (.getfield 23, 3) := by decide +kernel
theorem dX8_moved_276 : decode cX8_moved 276 = .ok (.iconst 4, 1) := by decide +kernel
theorem dX8_moved_277 : decode cX8_moved 277 = .ok (.iaload, 1) := by decide +kernel
theorem dX8_moved_278 : decode cX8_moved 278 = .ok (.ineg, 1) := by decide +kernel
theorem dX8_moved_279 : decode cX8_moved 279 = .ok (.aload_n 0, 1) := by decide +kernel
theorem dX8_moved_280 : decode cX8_moved 280 = .ok (.getfield 23, 3) := by decide +kernel
theorem dX8_moved_283 : decode cX8_moved 283 = .ok (.iconst 4, 1) := by decide +kernel
theorem dX8_moved_284 : decode cX8_moved 284 = .ok (.iaload, 1) := by decide +kernel
theorem dX8_moved_285 : decode cX8_moved 285 = .ok (.invokestatic 125, 3) := by decide +kernel
theorem dX8_moved_288 : decode cX8_moved 288 = .ok (.iadd, 1) := by decide +kernel
theorem dX8_moved_289 : decode cX8_moved 289 = .ok (.iconst 0, 1) := by decide +kernel
theorem dX8_moved_290 : decode cX8_moved 290 = .ok (.sipush 200, 3) := by decide +kernel
theorem dX8_moved_293 : decode cX8_moved 293 = .ok (.invokestatic 125, 3) := by decide +kernel
theorem dX8_moved_296 : decode cX8_moved 296 = .ok (.ireturn, 1) := by decide +kernel
theorem dX8_ones_0 : decode cX8_ones 0 = .ok (.iconst 0, 1) := by decide +kernel
theorem dX8_ones_1 : decode cX8_ones 1 = .ok (.istore_n 1, 1) := by decide +kernel
theorem dX8_ones_2 : decode cX8_ones 2 = .ok (.iconst 0, 1) := by decide +kernel
theorem dX8_ones_3 : decode cX8_ones 3 = .ok (.istore_n 2, 1) := by decide +kernel
theorem dX8_ones_4 : decode cX8_ones 4 = .ok (.iload_n 2, 1) := by decide +kernel
theorem dX8_ones_5 : decode cX8_ones 5 = .ok (.bipush 8, 2) := by decide +kernel
theorem dX8_ones_7 : decode cX8_ones 7 = .ok (.if_icmp .ge 17, 3) := by decide +kernel
theorem dX8_ones_10 : decode cX8_ones 10 = .ok (.iload_n 1, 1) := by decide +kernel
theorem dX8_ones_11 : decode cX8_ones 11 = .ok (.iload_n 0, 1) := by decide +kernel
theorem dX8_ones_12 : decode cX8_ones 12 = .ok (.iload_n 2, 1) := by decide +kernel
theorem dX8_ones_13 : decode cX8_ones 13 = .ok (.ishr, 1) := by decide +kernel
theorem dX8_ones_14 : decode cX8_ones 14 = .ok (.iconst 1, 1) := by decide +kernel
theorem dX8_ones_15 : decode cX8_ones 15 = .ok (.iand, 1) := by decide +kernel
theorem dX8_ones_16 : decode cX8_ones 16 = .ok (.iadd, 1) := by decide +kernel
theorem dX8_ones_17 : decode cX8_ones 17 = .ok (.istore_n 1, 1) := by decide +kernel
theorem dX8_ones_18 : decode cX8_ones 18 = .ok (.iinc 2 1, 3) := by decide +kernel
theorem dX8_ones_21 : decode cX8_ones 21 = .ok (.goto (-17), 3) := by decide +kernel
theorem dX8_ones_24 : decode cX8_ones 24 = .ok (.iload_n 1, 1) := by decide +kernel
theorem dX8_ones_25 : decode cX8_ones 25 = .ok (.ireturn, 1) := by decide +kernel
theorem dX8_isField_0 : decode cX8_isField 0 = .ok (.iload_n 1, 1) := by decide +kernel
theorem dX8_isField_1 : decode cX8_isField 1 = .ok (.iconst 0, 1) := by decide +kernel
theorem dX8_isField_2 : decode cX8_isField 2 = .ok (.iconst 1, 1) := by decide +kernel
theorem dX8_isField_3 : decode cX8_isField 3 = .ok (.aload_n 0, 1) := by decide +kernel
theorem dX8_isField_4 : decode cX8_isField 4 = .ok (.getfield 7, 3) := by decide +kernel
theorem dX8_isField_7 : decode cX8_isField 7 = .ok (.sipush 168, 3) := by decide +kernel
theorem dX8_isField_10 : decode cX8_isField 10 = .ok (.iaload, 1) := by decide +kernel
theorem dX8_isField_11 : decode cX8_isField 11 = .ok (.ishl, 1) := by decide +kernel
theorem dX8_isField_12 : decode cX8_isField 12 = .ok (.iconst 1, 1) := by decide +kernel
theorem dX8_isField_13 : decode cX8_isField 13 = .ok (.isub, 1) := by decide +kernel
theorem dX8_isField_14 : decode cX8_isField 14 = .ok (.invokestatic 61, 3) := by decide +kernel
theorem dX8_isField_17 : decode cX8_isField 17 = .ok (.ifCond .eq 15, 3) := by decide +kernel
theorem dX8_isField_20 : decode cX8_isField 20 = .ok (.iload_n 1, 1) := by decide +kernel
theorem dX8_isField_21 : decode cX8_isField 21 = .ok (.invokestatic 129, 3) := by decide +kernel
theorem dX8_isField_24 : decode cX8_isField 24 = .ok (.iconst 1, 1) := by decide +kernel
theorem dX8_isField_25 : decode cX8_isField 25 = .ok (.if_icmp .le 7, 3) := by decide +kernel
theorem dX8_isField_28 : decode cX8_isField 28 = .ok (.iconst 1, 1) := by decide +kernel
theorem dX8_isField_29 : decode cX8_isField 29 = .ok (.goto 4, 3) := by decide +kernel
theorem dX8_isField_32 : decode cX8_isField 32 = .ok (.iconst 0, 1) := by decide +kernel
theorem dX8_isField_33 : decode cX8_isField 33 = .ok (.ireturn, 1) := by decide +kernel
theorem dX8_has_0 : decode cX8_has 0 = .ok (.iload_n 0, 1) := by decide +kernel
theorem dX8_has_1 : decode cX8_has 1 = .ok (.iload_n 1, 1) := by decide +kernel
theorem dX8_has_2 : decode cX8_has 2 = .ok (.ishr, 1) := by decide +kernel
theorem dX8_has_3 : decode cX8_has 3 = .ok (.iconst 1, 1) := by decide +kernel
theorem dX8_has_4 : decode cX8_has 4 = .ok (.iand, 1) := by decide +kernel
theorem dX8_has_5 : decode cX8_has 5 = .ok (.iconst 1, 1) := by decide +kernel
theorem dX8_has_6 : decode cX8_has 6 = .ok (.if_icmp .ne 7, 3) := by decide +kernel
theorem dX8_has_9 : decode cX8_has 9 = .ok (.iconst 1, 1) := by decide +kernel
theorem dX8_has_10 : decode cX8_has 10 = .ok (.goto 4, 3) := by decide +kernel
theorem dX8_has_13 : decode cX8_has 13 = .ok (.iconst 0, 1) := by decide +kernel
theorem dX8_has_14 : decode cX8_has 14 = .ok (.ireturn, 1) := by decide +kernel
theorem dX8_weighs_0 : decode cX8_weighs 0 = .ok (.sipush 999, 3) := by decide +kernel
theorem dX8_weighs_3 : decode cX8_weighs 3 = .ok (.istore_n 2, 1) := by decide +kernel
theorem dX8_weighs_4 : decode cX8_weighs 4 = .ok (.iconst 0, 1) := by decide +kernel
theorem dX8_weighs_5 : decode cX8_weighs 5 = .ok (.istore_n 3, 1) := by decide +kernel
theorem dX8_weighs_6 : decode cX8_weighs 6 = .ok (.iload_n 3, 1) := by decide +kernel
theorem dX8_weighs_7 : decode cX8_weighs 7 = .ok (.aload_n 0, 1) := by decide +kernel
theorem dX8_weighs_8 : decode cX8_weighs 8 = .ok (.getfield 7, 3) := by decide +kernel
theorem dX8_weighs_11 : decode cX8_weighs 11 = .ok (.sipush 168, 3) := by decide +kernel
theorem dX8_weighs_14 : decode cX8_weighs 14 = .ok (.iaload, 1) := by decide +kernel
theorem dX8_weighs_15 : decode cX8_weighs 15 = .ok (.if_icmp .ge 43, 3) := by decide +kernel
theorem dX8_weighs_18 : decode cX8_weighs 18 = .ok (.aload_n 0, 1) := by decide +kernel
theorem dX8_weighs_19 : decode cX8_weighs 19 = .ok (.getfield 7, 3) := by decide +kernel
theorem dX8_weighs_22 : decode cX8_weighs 22 = .ok (.bipush 21, 2) := by decide +kernel
theorem dX8_weighs_24 : decode cX8_weighs 24 = .ok (.iload_n 3, 1) := by decide +kernel
theorem dX8_weighs_25 : decode cX8_weighs 25 = .ok (.imul, 1) := by decide +kernel
theorem dX8_weighs_26 : decode cX8_weighs 26 = .ok (.iconst 1, 1) := by decide +kernel
theorem dX8_weighs_27 : decode cX8_weighs 27 = .ok (.iadd, 1) := by decide +kernel
theorem dX8_weighs_28 : decode cX8_weighs 28 = .ok (.iaload, 1) := by decide +kernel
theorem dX8_weighs_29 : decode cX8_weighs 29 = .ok (.istore 4, 2) := by decide +kernel
theorem dX8_weighs_31 : decode cX8_weighs 31 = .ok (.iload_n 1, 1) := by decide +kernel
theorem dX8_weighs_32 : decode cX8_weighs 32 = .ok (.iload_n 3, 1) := by decide +kernel
theorem dX8_weighs_33 : decode cX8_weighs 33 = .ok (.invokestatic 132, 3) := by decide +kernel
theorem dX8_weighs_36 : decode cX8_weighs 36 = .ok (.ifCond .eq 14, 3) := by decide +kernel
theorem dX8_weighs_39 : decode cX8_weighs 39 = .ok (.iload 4, 2) := by decide +kernel
theorem dX8_weighs_41 : decode cX8_weighs 41 = .ok (.iload_n 2, 1) := by decide +kernel
theorem dX8_weighs_42 : decode cX8_weighs 42 = .ok (.if_icmp .ge 8, 3) := by decide +kernel
theorem dX8_weighs_45 : decode cX8_weighs 45 = .ok (.iload 4, 2) := by decide +kernel
theorem dX8_weighs_47 : decode cX8_weighs 47 = .ok (.goto 4, 3) := by decide +kernel
theorem dX8_weighs_50 : decode cX8_weighs 50 = .ok (.iload_n 2, 1) := by decide +kernel
theorem dX8_weighs_51 : decode cX8_weighs 51 = .ok (.istore_n 2, 1) := by decide +kernel
theorem dX8_weighs_52 : decode cX8_weighs 52 = .ok (.iinc 3 1, 3) := by decide +kernel
theorem dX8_weighs_55 : decode cX8_weighs 55 = .ok (.goto (-49), 3) := by decide +kernel
theorem dX8_weighs_58 : decode cX8_weighs 58 = .ok (.iconst 0, 1) := by decide +kernel
theorem dX8_weighs_59 : decode cX8_weighs 59 = .ok (.istore_n 3, 1) := by decide +kernel
theorem dX8_weighs_60 : decode cX8_weighs 60 = .ok (.iload_n 3, 1) := by decide +kernel
theorem dX8_weighs_61 : decode cX8_weighs 61 = .ok (.aload_n 0, 1) := by decide +kernel
theorem dX8_weighs_62 : decode cX8_weighs 62 = .ok (.getfield 7, 3) := by decide +kernel
theorem dX8_weighs_65 : decode cX8_weighs 65 = .ok (.sipush 168, 3) := by decide +kernel
theorem dX8_weighs_68 : decode cX8_weighs 68 = .ok (.iaload, 1) := by decide +kernel
theorem dX8_weighs_69 : decode cX8_weighs 69 = .ok (.if_icmp .ge 28, 3) := by decide +kernel
theorem dX8_weighs_72 : decode cX8_weighs 72 = .ok (.aload_n 0, 1) := by decide +kernel
theorem dX8_weighs_73 : decode cX8_weighs 73 = .ok (.getfield 44, 3) := by decide +kernel
theorem dX8_weighs_76 : decode cX8_weighs 76 = .ok (.iload_n 3, 1) := by decide +kernel
theorem dX8_weighs_77 : decode cX8_weighs 77 = .ok (.aload_n 0, 1) := by decide +kernel
theorem dX8_weighs_78 : decode cX8_weighs 78 = .ok (.getfield 7, 3) := by decide +kernel
theorem dX8_weighs_81 : decode cX8_weighs 81 = .ok (.bipush 21, 2) := by decide +kernel
theorem dX8_weighs_83 : decode cX8_weighs 83 = .ok (.iload_n 3, 1) := by decide +kernel
theorem dX8_weighs_84 : decode cX8_weighs 84 = .ok (.imul, 1) := by decide +kernel
theorem dX8_weighs_85 : decode cX8_weighs 85 = .ok (.iconst 1, 1) := by decide +kernel
theorem dX8_weighs_86 : decode cX8_weighs 86 = .ok (.iadd, 1) := by decide +kernel
theorem dX8_weighs_87 : decode cX8_weighs 87 = .ok (.iaload, 1) := by decide +kernel
theorem dX8_weighs_88 : decode cX8_weighs 88 = .ok (.iload_n 2, 1) := by decide +kernel
theorem dX8_weighs_89 : decode cX8_weighs 89 = .ok (.isub, 1) := by decide +kernel
theorem dX8_weighs_90 : decode cX8_weighs 90 = .ok (.iastore, 1) := by decide +kernel
theorem dX8_weighs_91 : decode cX8_weighs 91 = .ok (.iinc 3 1, 3) := by decide +kernel
theorem dX8_weighs_94 : decode cX8_weighs 94 = .ok (.goto (-34), 3) := by decide +kernel
theorem dX8_weighs_97 : decode cX8_weighs 97 = .ok (.return_, 1) := by decide +kernel
theorem dX8_bare_0 : decode cX8_bare 0 = .ok (.aload_n 0, 1) := by decide +kernel
theorem dX8_bare_1 : decode cX8_bare 1 = .ok (.getfield 7, 3) := by decide +kernel
theorem dX8_bare_4 : decode cX8_bare 4 = .ok (.bipush 21, 2) := by decide +kernel
theorem dX8_bare_6 : decode cX8_bare 6 = .ok (.iload_n 1, 1) := by decide +kernel
theorem dX8_bare_7 : decode cX8_bare 7 = .ok (.imul, 1) := by decide +kernel
theorem dX8_bare_8 : decode cX8_bare 8 = .ok (.iconst 2, 1) := by decide +kernel
theorem dX8_bare_9 : decode cX8_bare 9 = .ok (.iadd, 1) := by decide +kernel
theorem dX8_bare_10 : decode cX8_bare 10 = .ok (.iaload, 1) := by decide +kernel
theorem dX8_bare_11 : decode cX8_bare 11 = .ok (.istore_n 3, 1) := by decide +kernel
theorem dX8_bare_12 : decode cX8_bare 12 = .ok (.aload_n 0, 1) := by decide +kernel
theorem dX8_bare_13 : decode cX8_bare 13 = .ok (.getfield 7, 3) := by decide +kernel
theorem dX8_bare_16 : decode cX8_bare 16 = .ok (.bipush 21, 2) := by decide +kernel
theorem dX8_bare_18 : decode cX8_bare 18 = .ok (.iload_n 1, 1) := by decide +kernel
theorem dX8_bare_19 : decode cX8_bare 19 = .ok (.imul, 1) := by decide +kernel
theorem dX8_bare_20 : decode cX8_bare 20 = .ok (.iconst 0, 1) := by decide +kernel
theorem dX8_bare_21 : decode cX8_bare 21 = .ok (.iadd, 1) := by decide +kernel
theorem dX8_bare_22 : decode cX8_bare 22 = .ok (.iaload, 1) := by decide +kernel
theorem dX8_bare_23 : decode cX8_bare 23 = .ok (.aload_n 0, 1) := by decide +kernel
theorem dX8_bare_24 : decode cX8_bare 24 = .ok (.getfield 7, 3) := by decide +kernel
theorem dX8_bare_27 : decode cX8_bare 27 = .ok (.bipush 21, 2) := by decide +kernel
theorem dX8_bare_29 : decode cX8_bare 29 = .ok (.iload_n 1, 1) := by decide +kernel
theorem dX8_bare_30 : decode cX8_bare 30 = .ok (.imul, 1) := by decide +kernel
theorem dX8_bare_31 : decode cX8_bare 31 = .ok (.iconst 4, 1) := by decide +kernel
theorem dX8_bare_32 : decode cX8_bare 32 = .ok (.iadd, 1) := by decide +kernel
theorem dX8_bare_33 : decode cX8_bare 33 = .ok (.iload_n 2, 1) := by decide +kernel
theorem dX8_bare_34 : decode cX8_bare 34 = .ok (.iadd, 1) := by decide +kernel
theorem dX8_bare_35 : decode cX8_bare 35 = .ok (.iaload, 1) := by decide +kernel
theorem dX8_bare_36 : decode cX8_bare 36 = .ok (.iadd, 1) := by decide +kernel
theorem dX8_bare_37 : decode cX8_bare 37 = .ok (.iload_n 3, 1) := by decide +kernel
theorem dX8_bare_38 : decode cX8_bare 38 = .ok (.ifCond .ne 7, 3) := by decide +kernel
theorem dX8_bare_41 : decode cX8_bare 41 = .ok (.iconst 0, 1) := by decide +kernel
theorem dX8_bare_42 : decode cX8_bare 42 = .ok (.goto 9, 3) := by decide +kernel
theorem dX8_bare_45 : decode cX8_bare 45 = .ok (.aload_n 0, 1) := by decide +kernel
theorem dX8_bare_46 : decode cX8_bare 46 = .ok (.getfield 20, 3) := by decide +kernel
theorem dX8_bare_49 : decode cX8_bare 49 = .ok (.iload_n 3, 1) := by decide +kernel
theorem dX8_bare_50 : decode cX8_bare 50 = .ok (.iaload, 1) := by decide +kernel
theorem dX8_bare_51 : decode cX8_bare 51 = .ok (.isub, 1) := by decide +kernel
theorem dX8_bare_52 : decode cX8_bare 52 = .ok (.ireturn, 1) := by decide +kernel
theorem dX8_race_0 : decode cX8_race 0 = .ok (.aload_n 0, 1) := by decide +kernel
theorem dX8_race_1 : decode cX8_race 1 = .ok (.iconst 0, 1) := by decide +kernel
theorem dX8_race_2 : decode cX8_race 2 = .ok (.putfield 57, 3) := by decide +kernel
theorem dX8_race_5 : decode cX8_race 5 = .ok (.iload_n 1, 1) := by decide +kernel
theorem dX8_race_6 : decode cX8_race 6 = .ok (.iconst 0, 1) := by decide +kernel
theorem dX8_race_7 : decode cX8_race 7 = .ok (.iconst 2, 1) := by decide +kernel
theorem dX8_race_8 : decode cX8_race 8 = .ok (.invokestatic 61, 3) := by decide +kernel
theorem dX8_race_11 : decode cX8_race 11 = .ok (.ifCond .eq 11, 3) := by decide +kernel
theorem dX8_race_14 : decode cX8_race 14 = .ok (.aload_n 0, 1) := by decide +kernel
theorem dX8_race_15 : decode cX8_race 15 = .ok (.iload_n 2, 1) := by decide +kernel
theorem dX8_race_16 : decode cX8_race 16 = .ok (.invokevirtual 136, 3) := by decide +kernel
theorem dX8_race_19 : decode cX8_race 19 = .ok (.ifCond .ne 5, 3) := by decide +kernel
theorem dX8_race_22 : decode cX8_race 22 = .ok (.iconst (-1), 1) := by decide +kernel
theorem dX8_race_23 : decode cX8_race 23 = .ok (.ireturn, 1) := by decide +kernel
theorem dX8_race_24 : decode cX8_race 24 = .ok (.aload_n 0, 1) := by decide +kernel
theorem dX8_race_25 : decode cX8_race 25 = .ok (.iload_n 2, 1) := by decide +kernel
theorem dX8_race_26 : decode cX8_race 26 = .ok (.invokevirtual 139, 3) := by decide +kernel
theorem dX8_race_29 : decode cX8_race 29 = .ok (.bipush (-9), 2) := by decide +kernel
theorem dX8_race_31 : decode cX8_race 31 = .ok (.istore_n 3, 1) := by decide +kernel
theorem dX8_race_32 : decode cX8_race 32 = .ok (.iconst 0, 1) := by decide +kernel
theorem dX8_race_33 : decode cX8_race 33 = .ok (.istore 4, 2) := by decide +kernel
theorem dX8_race_35 : decode cX8_race 35 = .ok (.iload 4, 2) := by decide +kernel
theorem dX8_race_37 : decode cX8_race 37 = .ok (.aload_n 0, 1) := by decide +kernel
theorem dX8_race_38 : decode cX8_race 38 = .ok (.getfield 7, 3) := by decide +kernel
theorem dX8_race_41 : decode cX8_race 41 = .ok (.sipush 168, 3) := by decide +kernel
theorem dX8_race_44 : decode cX8_race 44 = .ok (.iaload, 1) := by decide +kernel
theorem dX8_race_45 : decode cX8_race 45 = .ok (.if_icmp .ge 166, 3) := by decide +kernel
theorem dX8_race_48 : decode cX8_race 48 = .ok (.iload_n 2, 1) := by decide +kernel
theorem dX8_race_49 : decode cX8_race 49 = .ok (.iload 4, 2) := by decide +kernel
theorem dX8_race_51 : decode cX8_race 51 = .ok (.invokestatic 132, 3) := by decide +kernel
theorem dX8_race_54 : decode cX8_race 54 = .ok (.ifCond .eq 151, 3) := by decide +kernel
theorem dX8_race_57 : decode cX8_race 57 = .ok (.aload_n 0, 1) := by decide +kernel
theorem dX8_race_58 : decode cX8_race 58 = .ok (.getfield 7, 3) := by decide +kernel
theorem dX8_race_61 : decode cX8_race 61 = .ok (.sipush 169, 3) := by decide +kernel
theorem dX8_race_64 : decode cX8_race 64 = .ok (.aload_n 0, 1) := by decide +kernel
theorem dX8_race_65 : decode cX8_race 65 = .ok (.getfield 7, 3) := by decide +kernel
theorem dX8_race_68 : decode cX8_race 68 = .ok (.sipush 169, 3) := by decide +kernel
theorem dX8_race_71 : decode cX8_race 71 = .ok (.iaload, 1) := by decide +kernel
theorem dX8_race_72 : decode cX8_race 72 = .ok (.ldc 143, 2) := by decide +kernel
theorem dX8_race_74 : decode cX8_race 74 = .ok (.imul, 1) := by decide +kernel
theorem dX8_race_75 : decode cX8_race 75 = .ok (.sipush 12345, 3) := by decide +kernel
theorem dX8_race_78 : decode cX8_race 78 = .ok (.iadd, 1) := by decide +kernel
theorem dX8_race_79 : decode cX8_race 79 = .ok (.iastore, 1) := by decide +kernel
theorem dX8_race_80 : decode cX8_race 80 = .ok (.aload_n 0, 1) := by decide +kernel
theorem dX8_race_81 : decode cX8_race 81 = .ok (.getfield 7, 3) := by decide +kernel
theorem dX8_race_84 : decode cX8_race 84 = .ok (.sipush 169, 3) := by decide +kernel
theorem dX8_race_87 : decode cX8_race 87 = .ok (.iaload, 1) := by decide +kernel
theorem dX8_race_88 : decode cX8_race 88 = .ok (.bipush 16, 2) := by decide +kernel
theorem dX8_race_90 : decode cX8_race 90 = .ok (.ishr, 1) := by decide +kernel
theorem dX8_race_91 : decode cX8_race 91 = .ok (.ldc 144, 2) := by decide +kernel
theorem dX8_race_93 : decode cX8_race 93 = .ok (.iand, 1) := by decide +kernel
theorem dX8_race_94 : decode cX8_race 94 = .ok (.iconst 2, 1) := by decide +kernel
theorem dX8_race_95 : decode cX8_race 95 = .ok (.aload_n 0, 1) := by decide +kernel
theorem dX8_race_96 : decode cX8_race 96 = .ok (.getfield 20, 3) := by decide +kernel
theorem dX8_race_99 : decode cX8_race 99 = .ok (.iconst 0, 1) := by decide +kernel
theorem dX8_race_100 : decode cX8_race 100 = .ok (.iaload, 1) := by decide +kernel
theorem dX8_race_101 : decode cX8_race 101 = .ok (.imul, 1) := by decide +kernel
theorem dX8_race_102 : decode cX8_race 102 = .ok (.iconst 1, 1) := by decide +kernel
theorem dX8_race_103 : decode cX8_race 103 = .ok (.iadd, 1) := by decide +kernel
theorem dX8_race_104 : decode cX8_race 104 = .ok (.irem, 1) := by decide +kernel
theorem dX8_race_105 : decode cX8_race 105 = .ok (.aload_n 0, 1) := by decide +kernel
theorem dX8_race_106 : decode cX8_race 106 = .ok (.getfield 20, 3) := by decide +kernel
theorem dX8_race_109 : decode cX8_race 109 = .ok (.iconst 0, 1) := by decide +kernel
theorem dX8_race_110 : decode cX8_race 110 = .ok (.iaload, 1) := by decide +kernel
theorem dX8_race_111 : decode cX8_race 111 = .ok (.isub, 1) := by decide +kernel
theorem dX8_race_112 : decode cX8_race 112 = .ok (.istore 5, 2) := by decide +kernel
theorem dX8_race_114 : decode cX8_race 114 = .ok (.aload_n 0, 1) := by decide +kernel
theorem dX8_race_115 : decode cX8_race 115 = .ok (.getfield 29, 3) := by decide +kernel
theorem dX8_race_118 : decode cX8_race 118 = .ok (.iconst 3, 1) := by decide +kernel
theorem dX8_race_119 : decode cX8_race 119 = .ok (.iload 4, 2) := by decide +kernel
theorem dX8_race_121 : decode cX8_race 121 = .ok (.imul, 1) := by decide +kernel
theorem dX8_race_122 : decode cX8_race 122 = .ok (.aload_n 0, 1) := by decide +kernel
theorem dX8_race_123 : decode cX8_race 123 = .ok (.iload 4, 2) := by decide +kernel
theorem dX8_race_125 : decode cX8_race 125 = .ok (.iload_n 1, 1) := by decide +kernel
theorem dX8_race_126 : decode cX8_race 126 = .ok (.invokevirtual 145, 3) := by decide +kernel
theorem dX8_race_129 : decode cX8_race 129 = .ok (.iload 5, 2) := by decide +kernel
theorem dX8_race_131 : decode cX8_race 131 = .ok (.iadd, 1) := by decide +kernel
theorem dX8_race_132 : decode cX8_race 132 = .ok (.aload_n 0, 1) := by decide +kernel
theorem dX8_race_133 : decode cX8_race 133 = .ok (.getfield 44, 3) := by decide +kernel
theorem dX8_race_136 : decode cX8_race 136 = .ok (.iload 4, 2) := by decide +kernel
theorem dX8_race_138 : decode cX8_race 138 = .ok (.iaload, 1) := by decide +kernel
theorem dX8_race_139 : decode cX8_race 139 = .ok (.isub, 1) := by decide +kernel
theorem dX8_race_140 : decode cX8_race 140 = .ok (.iastore, 1) := by decide +kernel
theorem dX8_race_141 : decode cX8_race 141 = .ok (.aload_n 0, 1) := by decide +kernel
theorem dX8_race_142 : decode cX8_race 142 = .ok (.getfield 29, 3) := by decide +kernel
theorem dX8_race_145 : decode cX8_race 145 = .ok (.iconst 3, 1) := by decide +kernel
theorem dX8_race_146 : decode cX8_race 146 = .ok (.iload 4, 2) := by decide +kernel
theorem dX8_race_148 : decode cX8_race 148 = .ok (.imul, 1) := by decide +kernel
theorem dX8_race_149 : decode cX8_race 149 = .ok (.iconst 1, 1) := by decide +kernel
theorem dX8_race_150 : decode cX8_race 150 = .ok (.iadd, 1) := by decide +kernel
theorem dX8_race_151 : decode cX8_race 151 = .ok (.aload_n 0, 1) := by decide +kernel
theorem dX8_race_152 : decode cX8_race 152 = .ok (.getfield 44, 3) := by decide +kernel
theorem dX8_race_155 : decode cX8_race 155 = .ok (.iload 4, 2) := by decide +kernel
theorem dX8_race_157 : decode cX8_race 157 = .ok (.iaload, 1) := by decide +kernel
theorem dX8_race_158 : decode cX8_race 158 = .ok (.iastore, 1) := by decide +kernel
theorem dX8_race_159 : decode cX8_race 159 = .ok (.aload_n 0, 1) := by decide +kernel
theorem dX8_race_160 : decode cX8_race 160 = .ok (.getfield 29, 3) := by decide +kernel
theorem dX8_race_163 : decode cX8_race 163 = .ok (.iconst 3, 1) := by decide +kernel
theorem dX8_race_164 : decode cX8_race 164 = .ok (.iload 4, 2) := by decide +kernel
theorem dX8_race_166 : decode cX8_race 166 = .ok (.imul, 1) := by decide +kernel
theorem dX8_race_167 : decode cX8_race 167 = .ok (.iconst 2, 1) := by decide +kernel
theorem dX8_race_168 : decode cX8_race 168 = .ok (.iadd, 1) := by decide +kernel
theorem dX8_race_169 : decode cX8_race 169 = .ok (.iload 5, 2) := by decide +kernel
theorem dX8_race_171 : decode cX8_race 171 = .ok (.iastore, 1) := by decide +kernel
theorem dX8_race_172 : decode cX8_race 172 = .ok (.iload_n 3, 1) := by decide +kernel
theorem dX8_race_173 : decode cX8_race 173 = .ok (.bipush (-9), 2) := by decide +kernel
theorem dX8_race_175 : decode cX8_race 175 = .ok (.if_icmp .eq 23, 3) := by decide +kernel
theorem dX8_race_178 : decode cX8_race 178 = .ok (.aload_n 0, 1) := by decide +kernel
theorem dX8_race_179 : decode cX8_race 179 = .ok (.getfield 29, 3) := by decide +kernel
theorem dX8_race_182 : decode cX8_race 182 = .ok (.iconst 3, 1) := by decide +kernel
theorem dX8_race_183 : decode cX8_race 183 = .ok (.iload 4, 2) := by decide +kernel
theorem dX8_race_185 : decode cX8_race 185 = .ok (.imul, 1) := by decide +kernel
theorem dX8_race_186 : decode cX8_race 186 = .ok (.iaload, 1) := by decide +kernel
theorem dX8_race_187 : decode cX8_race 187 = .ok (.aload_n 0, 1) := by decide +kernel
theorem dX8_race_188 : decode cX8_race 188 = .ok (.getfield 29, 3) := by decide +kernel
theorem dX8_race_191 : decode cX8_race 191 = .ok (.iconst 3, 1) := by decide +kernel
theorem dX8_race_192 : decode cX8_race 192 = .ok (.iload_n 3, 1) := by decide +kernel
theorem dX8_race_193 : decode cX8_race 193 = .ok (.imul, 1) := by decide +kernel
theorem dX8_race_194 : decode cX8_race 194 = .ok (.iaload, 1) := by decide +kernel
theorem dX8_race_195 : decode cX8_race 195 = .ok (.if_icmp .le 8, 3) := by decide +kernel
theorem dX8_race_198 : decode cX8_race 198 = .ok (.iload 4, 2) := by decide +kernel
theorem dX8_race_200 : decode cX8_race 200 = .ok (.goto 4, 3) := by decide +kernel
theorem dX8_race_203 : decode cX8_race 203 = .ok (.iload_n 3, 1) := by decide +kernel
theorem dX8_race_204 : decode cX8_race 204 = .ok (.istore_n 3, 1) := by decide +kernel
theorem dX8_race_205 : decode cX8_race 205 = .ok (.iinc 4 1, 3) := by decide +kernel
theorem dX8_race_208 : decode cX8_race 208 = .ok (.goto (-173), 3) := by decide +kernel
theorem dX8_race_211 : decode cX8_race 211 = .ok (.iconst 0, 1) := by decide +kernel
theorem dX8_race_212 : decode cX8_race 212 = .ok (.istore 4, 2) := by decide +kernel
theorem dX8_race_214 : decode cX8_race 214 = .ok (.iload 4, 2) := by decide +kernel
theorem dX8_race_216 : decode cX8_race 216 = .ok (.aload_n 0, 1) := by decide +kernel
theorem dX8_race_217 : decode cX8_race 217 = .ok (.getfield 7, 3) := by decide +kernel
theorem dX8_race_220 : decode cX8_race 220 = .ok (.sipush 168, 3) := by decide +kernel
theorem dX8_race_223 : decode cX8_race 223 = .ok (.iaload, 1) := by decide +kernel
theorem dX8_race_224 : decode cX8_race 224 = .ok (.if_icmp .ge 213, 3) := by decide +kernel
theorem dX8_race_227 : decode cX8_race 227 = .ok (.iload_n 2, 1) := by decide +kernel
theorem dX8_race_228 : decode cX8_race 228 = .ok (.iload 4, 2) := by decide +kernel
theorem dX8_race_230 : decode cX8_race 230 = .ok (.invokestatic 132, 3) := by decide +kernel
theorem dX8_race_233 : decode cX8_race 233 = .ok (.ifCond .eq 198, 3) := by decide +kernel
theorem dX8_race_236 : decode cX8_race 236 = .ok (.bipush 21, 2) := by decide +kernel
theorem dX8_race_238 : decode cX8_race 238 = .ok (.iload 4, 2) := by decide +kernel
theorem dX8_race_240 : decode cX8_race 240 = .ok (.imul, 1) := by decide +kernel
theorem dX8_race_241 : decode cX8_race 241 = .ok (.istore 5, 2) := by decide +kernel
theorem dX8_race_243 : decode cX8_race 243 = .ok (.aload_n 0, 1) := by decide +kernel
theorem dX8_race_244 : decode cX8_race 244 = .ok (.aload_n 0, 1) := by decide +kernel
theorem dX8_race_245 : decode cX8_race 245 = .ok (.getfield 7, 3) := by decide +kernel
theorem dX8_race_248 : decode cX8_race 248 = .ok (.iload 5, 2) := by decide +kernel
theorem dX8_race_250 : decode cX8_race 250 = .ok (.bipush 8, 2) := by decide +kernel
theorem dX8_race_252 : decode cX8_race 252 = .ok (.iadd, 1) := by decide +kernel
theorem dX8_race_253 : decode cX8_race 253 = .ok (.iaload, 1) := by decide +kernel
theorem dX8_race_254 : decode cX8_race 254 = .ok (.putfield 119, 3) := by decide +kernel
theorem dX8_race_257 : decode cX8_race 257 = .ok (.iconst 0, 1) := by decide +kernel
theorem dX8_race_258 : decode cX8_race 258 = .ok (.istore 6, 2) := by decide +kernel
theorem dX8_race_260 : decode cX8_race 260 = .ok (.iload 6, 2) := by decide +kernel
theorem dX8_race_262 : decode cX8_race 262 = .ok (.bipush 12, 2) := by decide +kernel
theorem dX8_race_264 : decode cX8_race 264 = .ok (.if_icmp .ge 29, 3) := by decide +kernel
theorem dX8_race_267 : decode cX8_race 267 = .ok (.aload_n 0, 1) := by decide +kernel
theorem dX8_race_268 : decode cX8_race 268 = .ok (.getfield 38, 3) := by decide +kernel
theorem dX8_race_271 : decode cX8_race 271 = .ok (.iload 6, 2) := by decide +kernel
theorem dX8_race_273 : decode cX8_race 273 = .ok (.aload_n 0, 1) := by decide +kernel
theorem dX8_race_274 : decode cX8_race 274 = .ok (.getfield 7, 3) := by decide +kernel
theorem dX8_race_277 : decode cX8_race 277 = .ok (.iload 5, 2) := by decide +kernel
theorem dX8_race_279 : decode cX8_race 279 = .ok (.bipush 9, 2) := by decide +kernel
theorem dX8_race_281 : decode cX8_race 281 = .ok (.iadd, 1) := by decide +kernel
theorem dX8_race_282 : decode cX8_race 282 = .ok (.iload 6, 2) := by decide +kernel
theorem dX8_race_284 : decode cX8_race 284 = .ok (.iadd, 1) := by decide +kernel
theorem dX8_race_285 : decode cX8_race 285 = .ok (.iaload, 1) := by decide +kernel
theorem dX8_race_286 : decode cX8_race 286 = .ok (.iastore, 1) := by decide +kernel
theorem dX8_race_287 : decode cX8_race 287 = .ok (.iinc 6 1, 3) := by decide +kernel
theorem dX8_race_290 : decode cX8_race 290 = .ok (.goto (-30), 3) := by decide +kernel
theorem dX8_race_293 : decode cX8_race 293 = .ok (.aload_n 0, 1) := by decide +kernel
theorem dX8_race_294 : decode cX8_race 294 = .ok (.getfield 7, 3) := by decide +kernel
theorem dX8_race_297 : decode cX8_race 297 = .ok (.iload 5, 2) := by decide +kernel
theorem dX8_race_299 : decode cX8_race 299 = .ok (.iconst 1, 1) := by decide +kernel
theorem dX8_race_300 : decode cX8_race 300 = .ok (.iadd, 1) := by decide +kernel
theorem dX8_race_301 : decode cX8_race 301 = .ok (.aload_n 0, 1) := by decide +kernel
theorem dX8_race_302 : decode cX8_race 302 = .ok (.aload_n 0, 1) := by decide +kernel
theorem dX8_race_303 : decode cX8_race 303 = .ok (.getfield 7, 3) := by decide +kernel
theorem dX8_race_306 : decode cX8_race 306 = .ok (.iload 5, 2) := by decide +kernel
theorem dX8_race_308 : decode cX8_race 308 = .ok (.iconst 1, 1) := by decide +kernel
theorem dX8_race_309 : decode cX8_race 309 = .ok (.iadd, 1) := by decide +kernel
theorem dX8_race_310 : decode cX8_race 310 = .ok (.iaload, 1) := by decide +kernel
theorem dX8_race_311 : decode cX8_race 311 = .ok (.aload_n 0, 1) := by decide +kernel
theorem dX8_race_312 : decode cX8_race 312 = .ok (.getfield 29, 3) := by decide +kernel
theorem dX8_race_315 : decode cX8_race 315 = .ok (.iconst 3, 1) := by decide +kernel
theorem dX8_race_316 : decode cX8_race 316 = .ok (.iload 4, 2) := by decide +kernel
theorem dX8_race_318 : decode cX8_race 318 = .ok (.imul, 1) := by decide +kernel
