theorem dX7_init_37 : decode cX7_init 37 = .ok (.bipush 10, 2) := by decide +kernel
theorem dX7_init_39 : decode cX7_init 39 = .ok (.iastore, 1) := by decide +kernel
theorem dX7_init_40 : decode cX7_init 40 = .ok (.putfield 20, 3) := by decide +kernel
theorem dX7_init_43 : decode cX7_init 43 = .ok (.aload_n 0, 1) := by decide +kernel
theorem dX7_init_44 : decode cX7_init 44 = .ok (.new 24, 3) := by decide +kernel
theorem dX7_init_47 : decode cX7_init 47 = .ok (.dup, 1) := by decide +kernel
theorem dX7_init_48 : decode cX7_init 48 = .ok (.invokespecial 26, 3) := by decide +kernel
theorem dX7_init_51 : decode cX7_init 51 = .ok (.putfield 27, 3) := by decide +kernel
theorem dX7_init_54 : decode cX7_init 54 = .ok (.aload_n 0, 1) := by decide +kernel
theorem dX7_init_55 : decode cX7_init 55 = .ok (.new 31, 3) := by decide +kernel
theorem dX7_init_58 : decode cX7_init 58 = .ok (.dup, 1) := by decide +kernel
theorem dX7_init_59 : decode cX7_init 59 = .ok (.invokespecial 33, 3) := by decide +kernel
theorem dX7_init_62 : decode cX7_init 62 = .ok (.putfield 34, 3) := by decide +kernel
theorem dX7_init_65 : decode cX7_init 65 = .ok (.aload_n 0, 1) := by decide +kernel
theorem dX7_init_66 : decode cX7_init 66 = .ok (.new 31, 3) := by decide +kernel
theorem dX7_init_69 : decode cX7_init 69 = .ok (.dup, 1) := by decide +kernel
theorem dX7_init_70 : decode cX7_init 70 = .ok (.invokespecial 33, 3) := by decide +kernel
theorem dX7_init_73 : decode cX7_init 73 = .ok (.putfield 38, 3) := by decide +kernel
theorem dX7_init_76 : decode cX7_init 76 = .ok (.aload_n 0, 1) := by decide +kernel
theorem dX7_init_77 : decode cX7_init 77 = .ok (.new 41, 3) := by decide +kernel
theorem dX7_init_80 : decode cX7_init 80 = .ok (.dup, 1) := by decide +kernel
theorem dX7_init_81 : decode cX7_init 81 = .ok (.invokespecial 43, 3) := by decide +kernel
theorem dX7_init_84 : decode cX7_init 84 = .ok (.putfield 44, 3) := by decide +kernel
theorem dX7_init_87 : decode cX7_init 87 = .ok (.aload_n 0, 1) := by decide +kernel
theorem dX7_init_88 : decode cX7_init 88 = .ok (.new 48, 3) := by decide +kernel
theorem dX7_init_91 : decode cX7_init 91 = .ok (.dup, 1) := by decide +kernel
theorem dX7_init_92 : decode cX7_init 92 = .ok (.invokespecial 50, 3) := by decide +kernel
theorem dX7_init_95 : decode cX7_init 95 = .ok (.putfield 51, 3) := by decide +kernel
theorem dX7_init_98 : decode cX7_init 98 = .ok (.aload_n 0, 1) := by decide +kernel
theorem dX7_init_99 : decode cX7_init 99 = .ok (.new 55, 3) := by decide +kernel
theorem dX7_init_102 : decode cX7_init 102 = .ok (.dup, 1) := by decide +kernel
theorem dX7_init_103 : decode cX7_init 103 = .ok (.invokespecial 57, 3) := by decide +kernel
theorem dX7_init_106 : decode cX7_init 106 = .ok (.putfield 58, 3) := by decide +kernel
theorem dX7_init_109 : decode cX7_init 109 = .ok (.aload_n 0, 1) := by decide +kernel
theorem dX7_init_110 : decode cX7_init 110 = .ok (.new 62, 3) := by decide +kernel
theorem dX7_init_113 : decode cX7_init 113 = .ok (.dup, 1) := by decide +kernel
theorem dX7_init_114 : decode cX7_init 114 = .ok (.invokespecial 64, 3) := by decide +kernel
theorem dX7_init_117 : decode cX7_init 117 = .ok (.putfield 65, 3) := by decide +kernel
theorem dX7_init_120 : decode cX7_init 120 = .ok (.aload_n 0, 1) := by decide +kernel
theorem dX7_init_121 : decode cX7_init 121 = .ok (.bipush 8, 2) := by decide +kernel
theorem dX7_init_123 : decode cX7_init 123 = .ok (.newarray .int, 2) := by decide +kernel
theorem dX7_init_125 : decode cX7_init 125 = .ok (.putfield 69, 3) := by decide +kernel
theorem dX7_init_128 : decode cX7_init 128 = .ok (.aload_n 0, 1) := by decide +kernel
theorem dX7_init_129 : decode cX7_init 129 = .ok (.bipush 8, 2) := by decide +kernel
theorem dX7_init_131 : decode cX7_init 131 = .ok (.newarray .int, 2) := by decide +kernel
theorem dX7_init_133 : decode cX7_init 133 = .ok (.putfield 72, 3) := by decide +kernel
theorem dX7_init_136 : decode cX7_init 136 = .ok (.aload_n 0, 1) := by decide +kernel
theorem dX7_init_137 : decode cX7_init 137 = .ok (.bipush 8, 2) := by decide +kernel
theorem dX7_init_139 : decode cX7_init 139 = .ok (.newarray .int, 2) := by decide +kernel
theorem dX7_init_141 : decode cX7_init 141 = .ok (.putfield 75, 3) := by decide +kernel
theorem dX7_init_144 : decode cX7_init 144 = .ok (.iconst 0, 1) := by decide +kernel
theorem dX7_init_145 : decode cX7_init 145 = .ok (.istore_n 1, 1) := by decide +kernel
theorem dX7_init_146 : decode cX7_init 146 = .ok (.iload_n 1, 1) := by decide +kernel
theorem dX7_init_147 : decode cX7_init 147 = .ok (.iconst 2, 1) := by decide +kernel
theorem dX7_init_148 : decode cX7_init 148 = .ok (.if_icmp .ge 22, 3) := by decide +kernel
theorem dX7_init_151 : decode cX7_init 151 = .ok (.aload_n 0, 1) := by decide +kernel
theorem dX7_init_152 : decode cX7_init 152 = .ok (.getfield 16, 3) := by decide +kernel
theorem dX7_init_155 : decode cX7_init 155 = .ok (.iload_n 1, 1) := by decide +kernel
theorem dX7_init_156 : decode cX7_init 156 = .ok (.new 7, 3) := by decide +kernel
theorem dX7_init_159 : decode cX7_init 159 = .ok (.dup, 1) := by decide +kernel
theorem dX7_init_160 : decode cX7_init 160 = .ok (.invokespecial 9, 3) := by decide +kernel
theorem dX7_init_163 : decode cX7_init 163 = .ok (.aastore, 1) := by decide +kernel
theorem dX7_init_164 : decode cX7_init 164 = .ok (.iinc 1 1, 3) := by decide +kernel
theorem dX7_init_167 : decode cX7_init 167 = .ok (.goto (-21), 3) := by decide +kernel
theorem dX7_init_170 : decode cX7_init 170 = .ok (.return_, 1) := by decide +kernel
theorem dX7_runner_0 : decode cX7_runner 0 = .ok (.iload_n 1, 1) := by decide +kernel
theorem dX7_runner_1 : decode cX7_runner 1 = .ok (.iconst 0, 1) := by decide +kernel
theorem dX7_runner_2 : decode cX7_runner 2 = .ok (.sipush 200, 3) := by decide +kernel
theorem dX7_runner_5 : decode cX7_runner 5 = .ok (.invokestatic 78, 3) := by decide +kernel
theorem dX7_runner_8 : decode cX7_runner 8 = .ok (.ifCond .ne 5, 3) := by decide +kernel
theorem dX7_runner_11 : decode cX7_runner 11 = .ok (.iconst (-1), 1) := by decide +kernel
theorem dX7_runner_12 : decode cX7_runner 12 = .ok (.ireturn, 1) := by decide +kernel
theorem dX7_runner_13 : decode cX7_runner 13 = .ok (.aload_n 0, 1) := by decide +kernel
theorem dX7_runner_14 : decode cX7_runner 14 = .ok (.getfield 10, 3) := by decide +kernel
theorem dX7_runner_17 : decode cX7_runner 17 = .ok (.getfield 82, 3) := by decide +kernel
theorem dX7_runner_20 : decode cX7_runner 20 = .ok (.bipush 8, 2) := by decide +kernel
theorem dX7_runner_22 : decode cX7_runner 22 = .ok (.if_icmp .lt 6, 3) := by decide +kernel
theorem dX7_runner_25 : decode cX7_runner 25 = .ok (.bipush (-3), 2) := by decide +kernel
theorem dX7_runner_27 : decode cX7_runner 27 = .ok (.ireturn, 1) := by decide +kernel
theorem dX7_runner_28 : decode cX7_runner 28 = .ok (.aload_n 0, 1) := by decide +kernel
theorem dX7_runner_29 : decode cX7_runner 29 = .ok (.getfield 10, 3) := by decide +kernel
theorem dX7_runner_32 : decode cX7_runner 32 = .ok (.getfield 86, 3) := by decide +kernel
theorem dX7_runner_35 : decode cX7_runner 35 = .ok (.aload_n 0, 1) := by decide +kernel
theorem dX7_runner_36 : decode cX7_runner 36 = .ok (.getfield 10, 3) := by decide +kernel
theorem dX7_runner_39 : decode cX7_runner 39 = .ok (.getfield 82, 3) := by decide +kernel
theorem dX7_runner_42 : decode cX7_runner 42 = .ok (.aaload, 1) := by decide +kernel
theorem dX7_runner_43 : decode cX7_runner 43 = .ok (.iload_n 1, 1) := by decide +kernel
theorem dX7_runner_44 : decode cX7_runner 44 = .ok (.invokevirtual 90, 3) := by decide +kernel
theorem dX7_runner_47 : decode cX7_runner 47 = .ok (.aload_n 0, 1) := by decide +kernel
theorem dX7_runner_48 : decode cX7_runner 48 = .ok (.getfield 10, 3) := by decide +kernel
theorem dX7_runner_51 : decode cX7_runner 51 = .ok (.dup, 1) := by decide +kernel
theorem dX7_runner_52 : decode cX7_runner 52 = .ok (.getfield 82, 3) := by decide +kernel
theorem dX7_runner_55 : decode cX7_runner 55 = .ok (.iconst 1, 1) := by decide +kernel
theorem dX7_runner_56 : decode cX7_runner 56 = .ok (.iadd, 1) := by decide +kernel
theorem dX7_runner_57 : decode cX7_runner 57 = .ok (.putfield 82, 3) := by decide +kernel
theorem dX7_runner_60 : decode cX7_runner 60 = .ok (.aload_n 0, 1) := by decide +kernel
theorem dX7_runner_61 : decode cX7_runner 61 = .ok (.getfield 10, 3) := by decide +kernel
theorem dX7_runner_64 : decode cX7_runner 64 = .ok (.getfield 82, 3) := by decide +kernel
theorem dX7_runner_67 : decode cX7_runner 67 = .ok (.iconst 1, 1) := by decide +kernel
theorem dX7_runner_68 : decode cX7_runner 68 = .ok (.isub, 1) := by decide +kernel
theorem dX7_runner_69 : decode cX7_runner 69 = .ok (.ireturn, 1) := by decide +kernel
theorem dX7_set_0 : decode cX7_set 0 = .ok (.aload_n 0, 1) := by decide +kernel
theorem dX7_set_1 : decode cX7_set 1 = .ok (.iload_n 1, 1) := by decide +kernel
theorem dX7_set_2 : decode cX7_set 2 = .ok (.invokevirtual 94, 3) := by decide +kernel
theorem dX7_set_5 : decode cX7_set 5 = .ok (.ifCond .eq 17, 3) := by decide +kernel
theorem dX7_set_8 : decode cX7_set 8 = .ok (.iload_n 2, 1) := by decide +kernel
theorem dX7_set_9 : decode cX7_set 9 = .ok (.iconst 0, 1) := by decide +kernel
theorem dX7_set_10 : decode cX7_set 10 = .ok (.getstatic 98, 3) := by decide +kernel
theorem dX7_set_13 : decode cX7_set 13 = .ok (.arraylength, 1) := by decide +kernel
theorem dX7_set_14 : decode cX7_set 14 = .ok (.iconst 1, 1) := by decide +kernel
theorem dX7_set_15 : decode cX7_set 15 = .ok (.isub, 1) := by decide +kernel
theorem dX7_set_16 : decode cX7_set 16 = .ok (.invokestatic 78, 3) := by decide +kernel
theorem dX7_set_19 : decode cX7_set 19 = .ok (.ifCond .ne 6, 3) := by decide +kernel
theorem dX7_set_22 : decode cX7_set 22 = .ok (.ldc 101, 2) := by decide +kernel
theorem dX7_set_24 : decode cX7_set 24 = .ok (.ireturn, 1) := by decide +kernel
theorem dX7_set_25 : decode cX7_set 25 = .ok (.iload_n 3, 1) := by decide +kernel
theorem dX7_set_26 : decode cX7_set 26 = .ok (.getstatic 102, 3) := by decide +kernel
theorem dX7_set_29 : decode cX7_set 29 = .ok (.iload_n 2, 1) := by decide +kernel
theorem dX7_set_30 : decode cX7_set 30 = .ok (.iaload, 1) := by decide +kernel
theorem dX7_set_31 : decode cX7_set 31 = .ok (.getstatic 98, 3) := by decide +kernel
theorem dX7_set_34 : decode cX7_set 34 = .ok (.iload_n 2, 1) := by decide +kernel
theorem dX7_set_35 : decode cX7_set 35 = .ok (.iaload, 1) := by decide +kernel
theorem dX7_set_36 : decode cX7_set 36 = .ok (.invokestatic 78, 3) := by decide +kernel
theorem dX7_set_39 : decode cX7_set 39 = .ok (.ifCond .ne 6, 3) := by decide +kernel
theorem dX7_set_42 : decode cX7_set 42 = .ok (.ldc 101, 2) := by decide +kernel
theorem dX7_set_44 : decode cX7_set 44 = .ok (.ireturn, 1) := by decide +kernel
theorem dX7_set_45 : decode cX7_set 45 = .ok (.aload_n 0, 1) := by decide +kernel
theorem dX7_set_46 : decode cX7_set 46 = .ok (.getfield 10, 3) := by decide +kernel
theorem dX7_set_49 : decode cX7_set 49 = .ok (.getfield 86, 3) := by decide +kernel
theorem dX7_set_52 : decode cX7_set 52 = .ok (.iload_n 1, 1) := by decide +kernel
theorem dX7_set_53 : decode cX7_set 53 = .ok (.aaload, 1) := by decide +kernel
theorem dX7_set_54 : decode cX7_set 54 = .ok (.iload_n 2, 1) := by decide +kernel
theorem dX7_set_55 : decode cX7_set 55 = .ok (.iload_n 3, 1) := by decide +kernel
theorem dX7_set_56 : decode cX7_set 56 = .ok (.invokevirtual 105, 3) := by decide +kernel
theorem dX7_set_59 : decode cX7_set 59 = .ok (.ireturn, 1) := by decide +kernel
theorem dX7_about_0 : decode cX7_about 0 = .ok (.aload_n 0, 1) := by decide +kernel
theorem dX7_about_1 : decode cX7_about 1 = .ok (.iload_n 1, 1) := by decide +kernel
theorem dX7_about_2 : decode cX7_about 2 = .ok (.invokevirtual 94, 3) := by decide +kernel
theorem dX7_about_5 : decode cX7_about 5 = .ok (.ifCond .ne 6, 3) := by decide +kernel
theorem dX7_about_8 : decode cX7_about 8 = .ok (.ldc 101, 2) := by decide +kernel
theorem dX7_about_10 : decode cX7_about 10 = .ok (.ireturn, 1) := by decide +kernel
theorem dX7_about_11 : decode cX7_about 11 = .ok (.aload_n 0, 1) := by decide +kernel
theorem dX7_about_12 : decode cX7_about 12 = .ok (.getfield 10, 3) := by decide +kernel
theorem dX7_about_15 : decode cX7_about 15 = .ok (.getfield 86, 3) := by decide +kernel
theorem dX7_about_18 : decode cX7_about 18 = .ok (.iload_n 1, 1) := by decide +kernel
theorem dX7_about_19 : decode cX7_about 19 = .ok (.aaload, 1) := by decide +kernel
theorem dX7_about_20 : decode cX7_about 20 = .ok (.astore_n 3, 1) := by decide +kernel
theorem dX7_about_21 : decode cX7_about 21 = .ok (.iload_n 2, 1) := by decide +kernel
theorem dX7_about_22 : decode cX7_about 22 = .ok (.tableswitch 68 0 5 #[38, 43, 48, 53, 58, 63], 38) := by decide +kernel
theorem dX7_about_60 : decode cX7_about 60 = .ok (.aload_n 3, 1) := by decide +kernel
theorem dX7_about_61 : decode cX7_about 61 = .ok (.getfield 109, 3) := by decide +kernel
theorem dX7_about_64 : decode cX7_about 64 = .ok (.ireturn, 1) := by decide +kernel
theorem dX7_about_65 : decode cX7_about 65 = .ok (.aload_n 3, 1) := by decide +kernel
theorem dX7_about_66 : decode cX7_about 66 = .ok (.getfield 112, 3) := by decide +kernel
theorem dX7_about_69 : decode cX7_about 69 = .ok (.ireturn, 1) := by decide +kernel
theorem dX7_about_70 : decode cX7_about 70 = .ok (.aload_n 3, 1) := by decide +kernel
theorem dX7_about_71 : decode cX7_about 71 = .ok (.getfield 115, 3) := by decide +kernel
theorem dX7_about_74 : decode cX7_about 74 = .ok (.ireturn, 1) := by decide +kernel
theorem dX7_about_75 : decode cX7_about 75 = .ok (.aload_n 3, 1) := by decide +kernel
theorem dX7_about_76 : decode cX7_about 76 = .ok (.getfield 118, 3) := by decide +kernel
theorem dX7_about_79 : decode cX7_about 79 = .ok (.ireturn, 1) := by decide +kernel
theorem dX7_about_80 : decode cX7_about 80 = .ok (.aload_n 3, 1) := by decide +kernel
theorem dX7_about_81 : decode cX7_about 81 = .ok (.getfield 121, 3) := by decide +kernel
theorem dX7_about_84 : decode cX7_about 84 = .ok (.ireturn, 1) := by decide +kernel
theorem dX7_about_85 : decode cX7_about 85 = .ok (.aload_n 3, 1) := by decide +kernel
theorem dX7_about_86 : decode cX7_about 86 = .ok (.getfield 124, 3) := by decide +kernel
theorem dX7_about_89 : decode cX7_about 89 = .ok (.ireturn, 1) := by decide +kernel
theorem dX7_about_90 : decode cX7_about 90 = .ok (.ldc 101, 2) := by decide +kernel
theorem dX7_about_92 : decode cX7_about 92 = .ok (.ireturn, 1) := by decide +kernel
theorem dX7_figure_0 : decode cX7_figure 0 = .ok (.aload_n 0, 1) := by decide +kernel
theorem dX7_figure_1 : decode cX7_figure 1 = .ok (.iload_n 1, 1) := by decide +kernel
theorem dX7_figure_2 : decode cX7_figure 2 = .ok (.invokevirtual 94, 3) := by decide +kernel
theorem dX7_figure_5 : decode cX7_figure 5 = .ok (.ifCond .eq 25, 3) := by decide +kernel
theorem dX7_figure_8 : decode cX7_figure 8 = .ok (.iload_n 2, 1) := by decide +kernel
theorem dX7_figure_9 : decode cX7_figure 9 = .ok (.iconst 0, 1) := by decide +kernel
theorem dX7_figure_10 : decode cX7_figure 10 = .ok (.aload_n 0, 1) := by decide +kernel
theorem dX7_figure_11 : decode cX7_figure 11 = .ok (.getfield 10, 3) := by decide +kernel
theorem dX7_figure_14 : decode cX7_figure 14 = .ok (.getfield 86, 3) := by decide +kernel
theorem dX7_figure_17 : decode cX7_figure 17 = .ok (.iload_n 1, 1) := by decide +kernel
theorem dX7_figure_18 : decode cX7_figure 18 = .ok (.aaload, 1) := by decide +kernel
theorem dX7_figure_19 : decode cX7_figure 19 = .ok (.getfield 124, 3) := by decide +kernel
theorem dX7_figure_22 : decode cX7_figure 22 = .ok (.iconst 1, 1) := by decide +kernel
theorem dX7_figure_23 : decode cX7_figure 23 = .ok (.isub, 1) := by decide +kernel
theorem dX7_figure_24 : decode cX7_figure 24 = .ok (.invokestatic 78, 3) := by decide +kernel
theorem dX7_figure_27 : decode cX7_figure 27 = .ok (.ifCond .ne 6, 3) := by decide +kernel
theorem dX7_figure_30 : decode cX7_figure 30 = .ok (.ldc 101, 2) := by decide +kernel
theorem dX7_figure_32 : decode cX7_figure 32 = .ok (.ireturn, 1) := by decide +kernel
theorem dX7_figure_33 : decode cX7_figure 33 = .ok (.aload_n 0, 1) := by decide +kernel
theorem dX7_figure_34 : decode cX7_figure 34 = .ok (.getfield 10, 3) := by decide +kernel
theorem dX7_figure_37 : decode cX7_figure 37 = .ok (.getfield 86, 3) := by decide +kernel
theorem dX7_figure_40 : decode cX7_figure 40 = .ok (.iload_n 1, 1) := by decide +kernel
theorem dX7_figure_41 : decode cX7_figure 41 = .ok (.aaload, 1) := by decide +kernel
theorem dX7_figure_42 : decode cX7_figure 42 = .ok (.getfield 127, 3) := by decide +kernel
theorem dX7_figure_45 : decode cX7_figure 45 = .ok (.iload_n 2, 1) := by decide +kernel
theorem dX7_figure_46 : decode cX7_figure 46 = .ok (.iaload, 1) := by decide +kernel
theorem dX7_figure_47 : decode cX7_figure 47 = .ok (.ireturn, 1) := by decide +kernel
theorem dX7_tune_0 : decode cX7_tune 0 = .ok (.iload_n 1, 1) := by decide +kernel
theorem dX7_tune_1 : decode cX7_tune 1 = .ok (.iconst 0, 1) := by decide +kernel
theorem dX7_tune_2 : decode cX7_tune 2 = .ok (.getstatic 130, 3) := by decide +kernel
theorem dX7_tune_5 : decode cX7_tune 5 = .ok (.arraylength, 1) := by decide +kernel
theorem dX7_tune_6 : decode cX7_tune 6 = .ok (.iconst 1, 1) := by decide +kernel
theorem dX7_tune_7 : decode cX7_tune 7 = .ok (.isub, 1) := by decide +kernel
theorem dX7_tune_8 : decode cX7_tune 8 = .ok (.invokestatic 78, 3) := by decide +kernel
theorem dX7_tune_11 : decode cX7_tune 11 = .ok (.ifCond .eq 16, 3) := by decide +kernel
theorem dX7_tune_14 : decode cX7_tune 14 = .ok (.iload_n 2, 1) := by decide +kernel
theorem dX7_tune_15 : decode cX7_tune 15 = .ok (.iconst 0, 1) := by decide +kernel
theorem dX7_tune_16 : decode cX7_tune 16 = .ok (.getstatic 130, 3) := by decide +kernel
theorem dX7_tune_19 : decode cX7_tune 19 = .ok (.iload_n 1, 1) := by decide +kernel
theorem dX7_tune_20 : decode cX7_tune 20 = .ok (.iaload, 1) := by decide +kernel
theorem dX7_tune_21 : decode cX7_tune 21 = .ok (.invokestatic 78, 3) := by decide +kernel
theorem dX7_tune_24 : decode cX7_tune 24 = .ok (.ifCond .ne 5, 3) := by decide +kernel
theorem dX7_tune_27 : decode cX7_tune 27 = .ok (.iconst (-1), 1) := by decide +kernel
theorem dX7_tune_28 : decode cX7_tune 28 = .ok (.ireturn, 1) := by decide +kernel
theorem dX7_tune_29 : decode cX7_tune 29 = .ok (.aload_n 0, 1) := by decide +kernel
theorem dX7_tune_30 : decode cX7_tune 30 = .ok (.getfield 20, 3) := by decide +kernel
theorem dX7_tune_33 : decode cX7_tune 33 = .ok (.iload_n 1, 1) := by decide +kernel
theorem dX7_tune_34 : decode cX7_tune 34 = .ok (.iaload, 1) := by decide +kernel
theorem dX7_tune_35 : decode cX7_tune 35 = .ok (.istore_n 3, 1) := by decide +kernel
theorem dX7_tune_36 : decode cX7_tune 36 = .ok (.aload_n 0, 1) := by decide +kernel
theorem dX7_tune_37 : decode cX7_tune 37 = .ok (.getfield 20, 3) := by decide +kernel
theorem dX7_tune_40 : decode cX7_tune 40 = .ok (.iload_n 1, 1) := by decide +kernel
theorem dX7_tune_41 : decode cX7_tune 41 = .ok (.iload_n 2, 1) := by decide +kernel
theorem dX7_tune_42 : decode cX7_tune 42 = .ok (.iastore, 1) := by decide +kernel
theorem dX7_tune_43 : decode cX7_tune 43 = .ok (.iload_n 3, 1) := by decide +kernel
theorem dX7_tune_44 : decode cX7_tune 44 = .ok (.ireturn, 1) := by decide +kernel
theorem dX7_lot_0 : decode cX7_lot 0 = .ok (.aload_n 0, 1) := by decide +kernel
theorem dX7_lot_1 : decode cX7_lot 1 = .ok (.getfield 10, 3) := by decide +kernel
theorem dX7_lot_4 : decode cX7_lot 4 = .ok (.getfield 133, 3) := by decide +kernel
theorem dX7_lot_7 : decode cX7_lot 7 = .ok (.istore_n 2, 1) := by decide +kernel
theorem dX7_lot_8 : decode cX7_lot 8 = .ok (.aload_n 0, 1) := by decide +kernel
theorem dX7_lot_9 : decode cX7_lot 9 = .ok (.getfield 10, 3) := by decide +kernel
theorem dX7_lot_12 : decode cX7_lot 12 = .ok (.iload_n 1, 1) := by decide +kernel
theorem dX7_lot_13 : decode cX7_lot 13 = .ok (.putfield 133, 3) := by decide +kernel
theorem dX7_lot_16 : decode cX7_lot 16 = .ok (.iload_n 2, 1) := by decide +kernel
theorem dX7_lot_17 : decode cX7_lot 17 = .ok (.ireturn, 1) := by decide +kernel
theorem dX7_type_0 : decode cX7_type 0 = .ok (.iload_n 3, 1) := by decide +kernel
theorem dX7_type_1 : decode cX7_type 1 = .ok (.iconst 1, 1) := by decide +kernel
theorem dX7_type_2 : decode cX7_type 2 = .ok (.bipush 8, 2) := by decide +kernel
theorem dX7_type_4 : decode cX7_type 4 = .ok (.invokestatic 78, 3) := by decide +kernel
theorem dX7_type_7 : decode cX7_type 7 = .ok (.ifCond .ne 5, 3) := by decide +kernel
theorem dX7_type_10 : decode cX7_type 10 = .ok (.iconst (-1), 1) := by decide +kernel
theorem dX7_type_11 : decode cX7_type 11 = .ok (.ireturn, 1) := by decide +kernel
theorem dX7_type_12 : decode cX7_type 12 = .ok (.aload_n 0, 1) := by decide +kernel
theorem dX7_type_13 : decode cX7_type 13 = .ok (.getfield 27, 3) := by decide +kernel
theorem dX7_type_16 : decode cX7_type 16 = .ok (.getfield 136, 3) := by decide +kernel
theorem dX7_type_19 : decode cX7_type 19 = .ok (.iload_n 3, 1) := by decide +kernel
theorem dX7_type_20 : decode cX7_type 20 = .ok (.iadd, 1) := by decide +kernel
theorem dX7_type_21 : decode cX7_type 21 = .ok (.sipush 200, 3) := by decide +kernel
theorem dX7_type_24 : decode cX7_type 24 = .ok (.if_icmp .le 6, 3) := by decide +kernel
theorem dX7_type_27 : decode cX7_type 27 = .ok (.bipush (-3), 2) := by decide +kernel
theorem dX7_type_29 : decode cX7_type 29 = .ok (.ireturn, 1) := by decide +kernel
theorem dX7_type_30 : decode cX7_type 30 = .ok (.iload_n 3, 1) := by decide +kernel
theorem dX7_type_31 : decode cX7_type 31 = .ok (.iconst 1, 1) := by decide +kernel
theorem dX7_type_32 : decode cX7_type 32 = .ok (.isub, 1) := by decide +kernel
theorem dX7_type_33 : decode cX7_type 33 = .ok (.istore 4, 2) := by decide +kernel
theorem dX7_type_35 : decode cX7_type 35 = .ok (.iload 4, 2) := by decide +kernel
theorem dX7_type_37 : decode cX7_type 37 = .ok (.ifCond .lt 28, 3) := by decide +kernel
theorem dX7_type_40 : decode cX7_type 40 = .ok (.aload_n 0, 1) := by decide +kernel
theorem dX7_type_41 : decode cX7_type 41 = .ok (.getfield 27, 3) := by decide +kernel
theorem dX7_type_44 : decode cX7_type 44 = .ok (.lload_n 1, 1) := by decide +kernel
theorem dX7_type_45 : decode cX7_type 45 = .ok (.bipush 8, 2) := by decide +kernel
theorem dX7_type_47 : decode cX7_type 47 = .ok (.iload 4, 2) := by decide +kernel
theorem dX7_type_49 : decode cX7_type 49 = .ok (.imul, 1) := by decide +kernel
theorem dX7_type_50 : decode cX7_type 50 = .ok (.lushr, 1) := by decide +kernel
theorem dX7_type_51 : decode cX7_type 51 = .ok (.l2i, 1) := by decide +kernel
theorem dX7_type_52 : decode cX7_type 52 = .ok (.sipush 255, 3) := by decide +kernel
theorem dX7_type_55 : decode cX7_type 55 = .ok (.iand, 1) := by decide +kernel
theorem dX7_type_56 : decode cX7_type 56 = .ok (.invokevirtual 139, 3) := by decide +kernel
theorem dX7_type_59 : decode cX7_type 59 = .ok (.iinc 4 (-1), 3) := by decide +kernel
theorem dX7_type_62 : decode cX7_type 62 = .ok (.goto (-27), 3) := by decide +kernel
theorem dX7_type_65 : decode cX7_type 65 = .ok (.aload_n 0, 1) := by decide +kernel
theorem dX7_type_66 : decode cX7_type 66 = .ok (.getfield 27, 3) := by decide +kernel
theorem dX7_type_69 : decode cX7_type 69 = .ok (.getfield 136, 3) := by decide +kernel
theorem dX7_type_72 : decode cX7_type 72 = .ok (.ireturn, 1) := by decide +kernel
theorem dX7_clear_0 : decode cX7_clear 0 = .ok (.aload_n 0, 1) := by decide +kernel
theorem dX7_clear_1 : decode cX7_clear 1 = .ok (.getfield 27, 3) := by decide +kernel
theorem dX7_clear_4 : decode cX7_clear 4 = .ok (.getfield 136, 3) := by decide +kernel
theorem dX7_clear_7 : decode cX7_clear 7 = .ok (.istore_n 1, 1) := by decide +kernel
theorem dX7_clear_8 : decode cX7_clear 8 = .ok (.aload_n 0, 1) := by decide +kernel
theorem dX7_clear_9 : decode cX7_clear 9 = .ok (.getfield 27, 3) := by decide +kernel
theorem dX7_clear_12 : decode cX7_clear 12 = .ok (.iconst 0, 1) := by decide +kernel
theorem dX7_clear_13 : decode cX7_clear 13 = .ok (.putfield 136, 3) := by decide +kernel
theorem dX7_clear_16 : decode cX7_clear 16 = .ok (.iload_n 1, 1) := by decide +kernel
theorem dX7_clear_17 : decode cX7_clear 17 = .ok (.ireturn, 1) := by decide +kernel
theorem dX7_rule_0 : decode cX7_rule 0 = .ok (.aload_n 0, 1) := by decide +kernel
theorem dX7_rule_1 : decode cX7_rule 1 = .ok (.getfield 27, 3) := by decide +kernel
theorem dX7_rule_4 : decode cX7_rule 4 = .ok (.aload_n 0, 1) := by decide +kernel
theorem dX7_rule_5 : decode cX7_rule 5 = .ok (.getfield 38, 3) := by decide +kernel
theorem dX7_rule_8 : decode cX7_rule 8 = .ok (.invokevirtual 142, 3) := by decide +kernel
theorem dX7_rule_11 : decode cX7_rule 11 = .ok (.istore_n 1, 1) := by decide +kernel
theorem dX7_rule_12 : decode cX7_rule 12 = .ok (.iload_n 1, 1) := by decide +kernel
theorem dX7_rule_13 : decode cX7_rule 13 = .ok (.ifCond .lt 22, 3) := by decide +kernel
theorem dX7_rule_16 : decode cX7_rule 16 = .ok (.aload_n 0, 1) := by decide +kernel
theorem dX7_rule_17 : decode cX7_rule 17 = .ok (.getfield 34, 3) := by decide +kernel
theorem dX7_rule_20 : decode cX7_rule 20 = .ok (.aload_n 0, 1) := by decide +kernel
theorem dX7_rule_21 : decode cX7_rule 21 = .ok (.getfield 38, 3) := by decide +kernel
theorem dX7_rule_24 : decode cX7_rule 24 = .ok (.invokevirtual 146, 3) := by decide +kernel
theorem dX7_rule_27 : decode cX7_rule 27 = .ok (.aload_n 0, 1) := by decide +kernel
theorem dX7_rule_28 : decode cX7_rule 28 = .ok (.getfield 27, 3) := by decide +kernel
theorem dX7_rule_31 : decode cX7_rule 31 = .ok (.iconst 0, 1) := by decide +kernel
theorem dX7_rule_32 : decode cX7_rule 32 = .ok (.putfield 136, 3) := by decide +kernel
theorem dX7_rule_35 : decode cX7_rule 35 = .ok (.iload_n 1, 1) := by decide +kernel
theorem dX7_rule_36 : decode cX7_rule 36 = .ok (.ireturn, 1) := by decide +kernel
theorem dX7_told_0 : decode cX7_told 0 = .ok (.iload_n 1, 1) := by decide +kernel
theorem dX7_told_1 : decode cX7_told 1 = .ok (.iconst 0, 1) := by decide +kernel
theorem dX7_told_2 : decode cX7_told 2 = .ok (.iconst 5, 1) := by decide +kernel
theorem dX7_told_3 : decode cX7_told 3 = .ok (.invokestatic 78, 3) := by decide +kernel
theorem dX7_told_6 : decode cX7_told 6 = .ok (.ifCond .eq 15, 3) := by decide +kernel
theorem dX7_told_9 : decode cX7_told 9 = .ok (.aload_n 0, 1) := by decide +kernel
theorem dX7_told_10 : decode cX7_told 10 = .ok (.getfield 34, 3) := by decide +kernel
theorem dX7_told_13 : decode cX7_told 13 = .ok (.getfield 150, 3) := by decide +kernel
theorem dX7_told_16 : decode cX7_told 16 = .ok (.iload_n 1, 1) := by decide +kernel
theorem dX7_told_17 : decode cX7_told 17 = .ok (.iaload, 1) := by decide +kernel
theorem dX7_told_18 : decode cX7_told 18 = .ok (.goto 4, 3) := by decide +kernel
theorem dX7_told_21 : decode cX7_told 21 = .ok (.iconst (-1), 1) := by decide +kernel
theorem dX7_told_22 : decode cX7_told 22 = .ok (.ireturn, 1) := by decide +kernel
theorem dX7_race_0 : decode cX7_race 0 = .ok (.aload_n 0, 1) := by decide +kernel
theorem dX7_race_1 : decode cX7_race 1 = .ok (.iload_n 1, 1) := by decide +kernel
theorem dX7_race_2 : decode cX7_race 2 = .ok (.iload_n 2, 1) := by decide +kernel
theorem dX7_race_3 : decode cX7_race 3 = .ok (.invokevirtual 153, 3) := by decide +kernel
theorem dX7_race_6 : decode cX7_race 6 = .ok (.ifCond .ne 5, 3) := by decide +kernel
theorem dX7_race_9 : decode cX7_race 9 = .ok (.iconst (-1), 1) := by decide +kernel
theorem dX7_race_10 : decode cX7_race 10 = .ok (.ireturn, 1) := by decide +kernel
theorem dX7_race_11 : decode cX7_race 11 = .ok (.aload_n 0, 1) := by decide +kernel
theorem dX7_race_12 : decode cX7_race 12 = .ok (.iload_n 2, 1) := by decide +kernel
theorem dX7_race_13 : decode cX7_race 13 = .ok (.invokevirtual 157, 3) := by decide +kernel
theorem dX7_race_16 : decode cX7_race 16 = .ok (.istore_n 3, 1) := by decide +kernel
theorem dX7_race_17 : decode cX7_race 17 = .ok (.iconst (-1), 1) := by decide +kernel
theorem dX7_race_18 : decode cX7_race 18 = .ok (.istore 4, 2) := by decide +kernel
theorem dX7_race_20 : decode cX7_race 20 = .ok (.iconst 0, 1) := by decide +kernel
theorem dX7_race_21 : decode cX7_race 21 = .ok (.istore 5, 2) := by decide +kernel
theorem dX7_race_23 : decode cX7_race 23 = .ok (.iload 5, 2) := by decide +kernel
theorem dX7_race_25 : decode cX7_race 25 = .ok (.aload_n 0, 1) := by decide +kernel
theorem dX7_race_26 : decode cX7_race 26 = .ok (.getfield 10, 3) := by decide +kernel
theorem dX7_race_29 : decode cX7_race 29 = .ok (.getfield 82, 3) := by decide +kernel
theorem dX7_race_32 : decode cX7_race 32 = .ok (.if_icmp .ge 52, 3) := by decide +kernel
theorem dX7_race_35 : decode cX7_race 35 = .ok (.iload_n 2, 1) := by decide +kernel
theorem dX7_race_36 : decode cX7_race 36 = .ok (.iload 5, 2) := by decide +kernel
theorem dX7_race_38 : decode cX7_race 38 = .ok (.invokestatic 161, 3) := by decide +kernel
theorem dX7_race_41 : decode cX7_race 41 = .ok (.ifCond .eq 37, 3) := by decide +kernel
theorem dX7_race_44 : decode cX7_race 44 = .ok (.aload_n 0, 1) := by decide +kernel
theorem dX7_race_45 : decode cX7_race 45 = .ok (.iload 5, 2) := by decide +kernel
theorem dX7_race_47 : decode cX7_race 47 = .ok (.iload_n 1, 1) := by decide +kernel
theorem dX7_race_48 : decode cX7_race 48 = .ok (.iload_n 3, 1) := by decide +kernel
theorem dX7_race_49 : decode cX7_race 49 = .ok (.invokevirtual 164, 3) := by decide +kernel
theorem dX7_race_52 : decode cX7_race 52 = .ok (.iload 4, 2) := by decide +kernel
theorem dX7_race_54 : decode cX7_race 54 = .ok (.ifCond .lt 20, 3) := by decide +kernel
theorem dX7_race_57 : decode cX7_race 57 = .ok (.aload_n 0, 1) := by decide +kernel
theorem dX7_race_58 : decode cX7_race 58 = .ok (.getfield 69, 3) := by decide +kernel
theorem dX7_race_61 : decode cX7_race 61 = .ok (.iload 5, 2) := by decide +kernel
theorem dX7_race_63 : decode cX7_race 63 = .ok (.iaload, 1) := by decide +kernel
theorem dX7_race_64 : decode cX7_race 64 = .ok (.aload_n 0, 1) := by decide +kernel
theorem dX7_race_65 : decode cX7_race 65 = .ok (.getfield 69, 3) := by decide +kernel
theorem dX7_race_68 : decode cX7_race 68 = .ok (.iload 4, 2) := by decide +kernel
theorem dX7_race_70 : decode cX7_race 70 = .ok (.iaload, 1) := by decide +kernel
theorem dX7_race_71 : decode cX7_race 71 = .ok (.if_icmp .le 7, 3) := by decide +kernel
theorem dX7_race_74 : decode cX7_race 74 = .ok (.iload 5, 2) := by decide +kernel
theorem dX7_race_76 : decode cX7_race 76 = .ok (.istore 4, 2) := by decide +kernel
theorem dX7_race_78 : decode cX7_race 78 = .ok (.iinc 5 1, 3) := by decide +kernel
theorem dX7_race_81 : decode cX7_race 81 = .ok (.goto (-58), 3) := by decide +kernel
theorem dX7_race_84 : decode cX7_race 84 = .ok (.aload_n 0, 1) := by decide +kernel
theorem dX7_race_85 : decode cX7_race 85 = .ok (.iload_n 2, 1) := by decide +kernel
theorem dX7_race_86 : decode cX7_race 86 = .ok (.putfield 168, 3) := by decide +kernel
theorem dX7_race_89 : decode cX7_race 89 = .ok (.aload_n 0, 1) := by decide +kernel
theorem dX7_race_90 : decode cX7_race 90 = .ok (.getfield 10, 3) := by decide +kernel
theorem dX7_race_93 : decode cX7_race 93 = .ok (.dup, 1) := by decide +kernel
theorem dX7_race_94 : decode cX7_race 94 = .ok (.getfield 171, 3) := by decide +kernel
theorem dX7_race_97 : decode cX7_race 97 = .ok (.iconst 1, 1) := by decide +kernel
theorem dX7_race_98 : decode cX7_race 98 = .ok (.iadd, 1) := by decide +kernel
theorem dX7_race_99 : decode cX7_race 99 = .ok (.putfield 171, 3) := by decide +kernel
theorem dX7_race_102 : decode cX7_race 102 = .ok (.iload 4, 2) := by decide +kernel
theorem dX7_race_104 : decode cX7_race 104 = .ok (.ireturn, 1) := by decide +kernel
theorem dX7_shown_0 : decode cX7_shown 0 = .ok (.aload_n 0, 1) := by decide +kernel
theorem dX7_shown_1 : decode cX7_shown 1 = .ok (.iload_n 1, 1) := by decide +kernel
theorem dX7_shown_2 : decode cX7_shown 2 = .ok (.invokevirtual 94, 3) := by decide +kernel
theorem dX7_shown_5 : decode cX7_shown 5 = .ok (.ifCond .eq 14, 3) := by decide +kernel
theorem dX7_shown_8 : decode cX7_shown 8 = .ok (.aload_n 0, 1) := by decide +kernel
theorem dX7_shown_9 : decode cX7_shown 9 = .ok (.getfield 168, 3) := by decide +kernel
theorem dX7_shown_12 : decode cX7_shown 12 = .ok (.iload_n 1, 1) := by decide +kernel
theorem dX7_shown_13 : decode cX7_shown 13 = .ok (.invokestatic 161, 3) := by decide +kernel
theorem dX7_shown_16 : decode cX7_shown 16 = .ok (.ifCond .ne 6, 3) := by decide +kernel
theorem dX7_shown_19 : decode cX7_shown 19 = .ok (.ldc 101, 2) := by decide +kernel
theorem dX7_shown_21 : decode cX7_shown 21 = .ok (.ireturn, 1) := by decide +kernel
theorem dX7_shown_22 : decode cX7_shown 22 = .ok (.iload_n 2, 1) := by decide +kernel
theorem dX7_shown_23 : decode cX7_shown 23 = .ok (.tableswitch 46 0 2 #[25, 32, 39], 25) := by decide +kernel
theorem dX7_shown_48 : decode cX7_shown 48 = .ok (.aload_n 0, 1) := by decide +kernel
theorem dX7_shown_49 : decode cX7_shown 49 = .ok (.getfield 69, 3) := by decide +kernel
theorem dX7_shown_52 : decode cX7_shown 52 = .ok (.iload_n 1, 1) := by decide +kernel
theorem dX7_shown_53 : decode cX7_shown 53 = .ok (.iaload, 1) := by decide +kernel
theorem dX7_shown_54 : decode cX7_shown 54 = .ok (.ireturn, 1) := by decide +kernel
theorem dX7_shown_55 : decode cX7_shown 55 = .ok (.aload_n 0, 1) := by decide +kernel
theorem dX7_shown_56 : decode cX7_shown 56 = .ok (.getfield 72, 3) := by decide +kernel
theorem dX7_shown_59 : decode cX7_shown 59 = .ok (.iload_n 1, 1) := by decide +kernel
theorem dX7_shown_60 : decode cX7_shown 60 = .ok (.iaload, 1) := by decide +kernel
theorem dX7_shown_61 : decode cX7_shown 61 = .ok (.ireturn, 1) := by decide +kernel
theorem dX7_shown_62 : decode cX7_shown 62 = .ok (.aload_n 0, 1) := by decide +kernel
theorem dX7_shown_63 : decode cX7_shown 63 = .ok (.getfield 75, 3) := by decide +kernel
theorem dX7_shown_66 : decode cX7_shown 66 = .ok (.iload_n 1, 1) := by decide +kernel
theorem dX7_shown_67 : decode cX7_shown 67 = .ok (.iaload, 1) := by decide +kernel
theorem dX7_shown_68 : decode cX7_shown 68 = .ok (.ireturn, 1) := by decide +kernel
theorem dX7_shown_69 : decode cX7_shown 69 = .ok (.ldc 101, 2) := by decide +kernel
theorem dX7_shown_71 : decode cX7_shown 71 = .ok (.ireturn, 1) := by decide +kernel
theorem dX7_weight_0 : decode cX7_weight 0 = .ok (.aload_n 0, 1) := by decide +kernel
theorem dX7_weight_1 : decode cX7_weight 1 = .ok (.iconst 0, 1) := by decide +kernel
theorem dX7_weight_2 : decode cX7_weight 2 = .ok (.iload_n 2, 1) := by decide +kernel
theorem dX7_weight_3 : decode cX7_weight 3 = .ok (.invokevirtual 153, 3) := by decide +kernel
theorem dX7_weight_6 : decode cX7_weight 6 = .ok (.ifCond .eq 19, 3) := by decide +kernel
theorem dX7_weight_9 : decode cX7_weight 9 = .ok (.aload_n 0, 1) := by decide +kernel
theorem dX7_weight_10 : decode cX7_weight 10 = .ok (.iload_n 1, 1) := by decide +kernel
theorem dX7_weight_11 : decode cX7_weight 11 = .ok (.invokevirtual 94, 3) := by decide +kernel
theorem dX7_weight_14 : decode cX7_weight 14 = .ok (.ifCond .eq 11, 3) := by decide +kernel
theorem dX7_weight_17 : decode cX7_weight 17 = .ok (.iload_n 2, 1) := by decide +kernel
theorem dX7_weight_18 : decode cX7_weight 18 = .ok (.iload_n 1, 1) := by decide +kernel
theorem dX7_weight_19 : decode cX7_weight 19 = .ok (.invokestatic 161, 3) := by decide +kernel
theorem dX7_weight_22 : decode cX7_weight 22 = .ok (.ifCond .ne 5, 3) := by decide +kernel
theorem dX7_weight_25 : decode cX7_weight 25 = .ok (.iconst (-1), 1) := by decide +kernel
theorem dX7_weight_26 : decode cX7_weight 26 = .ok (.ireturn, 1) := by decide +kernel
theorem dX7_weight_27 : decode cX7_weight 27 = .ok (.aload_n 0, 1) := by decide +kernel
theorem dX7_weight_28 : decode cX7_weight 28 = .ok (.getfield 10, 3) := by decide +kernel
theorem dX7_weight_31 : decode cX7_weight 31 = .ok (.getfield 86, 3) := by decide +kernel
theorem dX7_weight_34 : decode cX7_weight 34 = .ok (.iload_n 1, 1) := by decide +kernel
theorem dX7_weight_35 : decode cX7_weight 35 = .ok (.aaload, 1) := by decide +kernel
theorem dX7_weight_36 : decode cX7_weight 36 = .ok (.getfield 112, 3) := by decide +kernel
theorem dX7_weight_39 : decode cX7_weight 39 = .ok (.aload_n 0, 1) := by decide +kernel
theorem dX7_weight_40 : decode cX7_weight 40 = .ok (.iload_n 2, 1) := by decide +kernel
theorem dX7_weight_41 : decode cX7_weight 41 = .ok (.invokevirtual 157, 3) := by decide +kernel
theorem dX7_weight_44 : decode cX7_weight 44 = .ok (.isub, 1) := by decide +kernel
theorem dX7_weight_45 : decode cX7_weight 45 = .ok (.ireturn, 1) := by decide +kernel
theorem dX7_odds_0 : decode cX7_odds 0 = .ok (.aload_n 0, 1) := by decide +kernel
theorem dX7_odds_1 : decode cX7_odds 1 = .ok (.iload_n 1, 1) := by decide +kernel
theorem dX7_odds_2 : decode cX7_odds 2 = .ok (.iload_n 2, 1) := by decide +kernel
theorem dX7_odds_3 : decode cX7_odds 3 = .ok (.iload_n 3, 1) := by decide +kernel
theorem dX7_odds_4 : decode cX7_odds 4 = .ok (.invokevirtual 174, 3) := by decide +kernel
theorem dX7_odds_7 : decode cX7_odds 7 = .ok (.ifCond .ne 7, 3) := by decide +kernel
theorem dX7_odds_10 : decode cX7_odds 10 = .ok (.ldc2_w 177, 3) := by decide +kernel
theorem dX7_odds_13 : decode cX7_odds 13 = .ok (.lreturn, 1) := by decide +kernel
theorem dX7_odds_14 : decode cX7_odds 14 = .ok (.aload_n 0, 1) := by decide +kernel
theorem dX7_odds_15 : decode cX7_odds 15 = .ok (.iload_n 1, 1) := by decide +kernel
theorem dX7_odds_16 : decode cX7_odds 16 = .ok (.iload_n 2, 1) := by decide +kernel
theorem dX7_odds_17 : decode cX7_odds 17 = .ok (.invokevirtual 179, 3) := by decide +kernel
theorem dX7_odds_20 : decode cX7_odds 20 = .ok (.iload_n 3, 1) := by decide +kernel
theorem dX7_odds_21 : decode cX7_odds 21 = .ok (.iconst (-1), 1) := by decide +kernel
theorem dX7_odds_22 : decode cX7_odds 22 = .ok (.if_icmp .ne 13, 3) := by decide +kernel
theorem dX7_odds_25 : decode cX7_odds 25 = .ok (.aload_n 0, 1) := by decide +kernel
theorem dX7_odds_26 : decode cX7_odds 26 = .ok (.getfield 51, 3) := by decide +kernel
theorem dX7_odds_29 : decode cX7_odds 29 = .ok (.invokevirtual 183, 3) := by decide +kernel
theorem dX7_odds_32 : decode cX7_odds 32 = .ok (.goto 15, 3) := by decide +kernel
theorem dX7_odds_35 : decode cX7_odds 35 = .ok (.aload_n 0, 1) := by decide +kernel
theorem dX7_odds_36 : decode cX7_odds 36 = .ok (.getfield 51, 3) := by decide +kernel
theorem dX7_odds_39 : decode cX7_odds 39 = .ok (.iload_n 2, 1) := by decide +kernel
theorem dX7_odds_40 : decode cX7_odds 40 = .ok (.iload_n 3, 1) := by decide +kernel
theorem dX7_odds_41 : decode cX7_odds 41 = .ok (.invokestatic 187, 3) := by decide +kernel
theorem dX7_odds_44 : decode cX7_odds 44 = .ok (.invokevirtual 190, 3) := by decide +kernel
theorem dX7_odds_47 : decode cX7_odds 47 = .ok (.lreturn, 1) := by decide +kernel
theorem dX7_close_0 : decode cX7_close 0 = .ok (.aload_n 0, 1) := by decide +kernel
theorem dX7_close_1 : decode cX7_close 1 = .ok (.iload_n 1, 1) := by decide +kernel
theorem dX7_close_2 : decode cX7_close 2 = .ok (.iload_n 2, 1) := by decide +kernel
theorem dX7_close_3 : decode cX7_close 3 = .ok (.invokevirtual 153, 3) := by decide +kernel
theorem dX7_close_6 : decode cX7_close 6 = .ok (.ifCond .ne 7, 3) := by decide +kernel
theorem dX7_close_9 : decode cX7_close 9 = .ok (.ldc2_w 177, 3) := by decide +kernel
theorem dX7_close_12 : decode cX7_close 12 = .ok (.lreturn, 1) := by decide +kernel
theorem dX7_close_13 : decode cX7_close 13 = .ok (.aload_n 0, 1) := by decide +kernel
theorem dX7_close_14 : decode cX7_close 14 = .ok (.iload_n 1, 1) := by decide +kernel
theorem dX7_close_15 : decode cX7_close 15 = .ok (.iload_n 2, 1) := by decide +kernel
theorem dX7_close_16 : decode cX7_close 16 = .ok (.invokevirtual 179, 3) := by decide +kernel
theorem dX7_close_19 : decode cX7_close 19 = .ok (.aload_n 0, 1) := by decide +kernel
theorem dX7_close_20 : decode cX7_close 20 = .ok (.getfield 51, 3) := by decide +kernel
theorem dX7_close_23 : decode cX7_close 23 = .ok (.ldc2_w 194, 3) := by decide +kernel
theorem dX7_close_26 : decode cX7_close 26 = .ok (.invokevirtual 196, 3) := by decide +kernel
theorem dX7_close_29 : decode cX7_close 29 = .ok (.lreturn, 1) := by decide +kernel
theorem dX7_even_0 : decode cX7_even 0 = .ok (.aload_n 0, 1) := by decide +kernel
theorem dX7_even_1 : decode cX7_even 1 = .ok (.iload_n 1, 1) := by decide +kernel
theorem dX7_even_2 : decode cX7_even 2 = .ok (.iload_n 2, 1) := by decide +kernel
theorem dX7_even_3 : decode cX7_even 3 = .ok (.iload_n 3, 1) := by decide +kernel
theorem dX7_even_4 : decode cX7_even 4 = .ok (.invokevirtual 174, 3) := by decide +kernel
theorem dX7_even_7 : decode cX7_even 7 = .ok (.ifCond .ne 7, 3) := by decide +kernel
theorem dX7_even_10 : decode cX7_even 10 = .ok (.ldc2_w 177, 3) := by decide +kernel
theorem dX7_even_13 : decode cX7_even 13 = .ok (.lreturn, 1) := by decide +kernel
theorem dX7_even_14 : decode cX7_even 14 = .ok (.iload_n 2, 1) := by decide +kernel
theorem dX7_even_15 : decode cX7_even 15 = .ok (.invokestatic 200, 3) := by decide +kernel
theorem dX7_even_18 : decode cX7_even 18 = .ok (.iconst 3, 1) := by decide +kernel
theorem dX7_even_19 : decode cX7_even 19 = .ok (.if_icmp .le 7, 3) := by decide +kernel
theorem dX7_even_22 : decode cX7_even 22 = .ok (.ldc2_w 205, 3) := by decide +kernel
theorem dX7_even_25 : decode cX7_even 25 = .ok (.lreturn, 1) := by decide +kernel
theorem dX7_even_26 : decode cX7_even 26 = .ok (.aload_n 0, 1) := by decide +kernel
theorem dX7_even_27 : decode cX7_even 27 = .ok (.iload_n 1, 1) := by decide +kernel
theorem dX7_even_28 : decode cX7_even 28 = .ok (.iload_n 2, 1) := by decide +kernel
theorem dX7_even_29 : decode cX7_even 29 = .ok (.invokevirtual 179, 3) := by decide +kernel
theorem dX7_even_32 : decode cX7_even 32 = .ok (.aload_n 0, 1) := by decide +kernel
theorem dX7_even_33 : decode cX7_even 33 = .ok (.getfield 51, 3) := by decide +kernel
theorem dX7_even_36 : decode cX7_even 36 = .ok (.invokevirtual 207, 3) := by decide +kernel
theorem dX7_even_39 : decode cX7_even 39 = .ok (.iload_n 3, 1) := by decide +kernel
theorem dX7_even_40 : decode cX7_even 40 = .ok (.iconst (-1), 1) := by decide +kernel
theorem dX7_even_41 : decode cX7_even 41 = .ok (.if_icmp .ne 13, 3) := by decide +kernel
theorem dX7_even_44 : decode cX7_even 44 = .ok (.aload_n 0, 1) := by decide +kernel
theorem dX7_even_45 : decode cX7_even 45 = .ok (.getfield 51, 3) := by decide +kernel
theorem dX7_even_48 : decode cX7_even 48 = .ok (.getfield 210, 3) := by decide +kernel
theorem dX7_even_51 : decode cX7_even 51 = .ok (.goto 17, 3) := by decide +kernel
theorem dX7_even_54 : decode cX7_even 54 = .ok (.aload_n 0, 1) := by decide +kernel
theorem dX7_even_55 : decode cX7_even 55 = .ok (.getfield 51, 3) := by decide +kernel
theorem dX7_even_58 : decode cX7_even 58 = .ok (.getfield 214, 3) := by decide +kernel
theorem dX7_even_61 : decode cX7_even 61 = .ok (.iload_n 2, 1) := by decide +kernel
theorem dX7_even_62 : decode cX7_even 62 = .ok (.iload_n 3, 1) := by decide +kernel
theorem dX7_even_63 : decode cX7_even 63 = .ok (.invokestatic 187, 3) := by decide +kernel
theorem dX7_even_66 : decode cX7_even 66 = .ok (.iaload, 1) := by decide +kernel
theorem dX7_even_67 : decode cX7_even 67 = .ok (.i2l, 1) := by decide +kernel
theorem dX7_even_68 : decode cX7_even 68 = .ok (.lreturn, 1) := by decide +kernel
theorem dX7_good_0 : decode cX7_good 0 = .ok (.iload_n 1, 1) := by decide +kernel
theorem dX7_good_1 : decode cX7_good 1 = .ok (.iconst 1, 1) := by decide +kernel
theorem dX7_good_2 : decode cX7_good 2 = .ok (.bipush 6, 2) := by decide +kernel
theorem dX7_good_4 : decode cX7_good 4 = .ok (.invokestatic 78, 3) := by decide +kernel
theorem dX7_good_7 : decode cX7_good 7 = .ok (.ifCond .eq 22, 3) := by decide +kernel
theorem dX7_good_10 : decode cX7_good 10 = .ok (.iload_n 2, 1) := by decide +kernel
theorem dX7_good_11 : decode cX7_good 11 = .ok (.iconst 0, 1) := by decide +kernel
theorem dX7_good_12 : decode cX7_good 12 = .ok (.bipush 20, 2) := by decide +kernel
theorem dX7_good_14 : decode cX7_good 14 = .ok (.invokestatic 78, 3) := by decide +kernel
theorem dX7_good_17 : decode cX7_good 17 = .ok (.ifCond .eq 12, 3) := by decide +kernel
theorem dX7_good_20 : decode cX7_good 20 = .ok (.iload_n 3, 1) := by decide +kernel
theorem dX7_good_21 : decode cX7_good 21 = .ok (.iconst 0, 1) := by decide +kernel
theorem dX7_good_22 : decode cX7_good 22 = .ok (.iconst 1, 1) := by decide +kernel
theorem dX7_good_23 : decode cX7_good 23 = .ok (.invokestatic 78, 3) := by decide +kernel
theorem dX7_good_26 : decode cX7_good 26 = .ok (.ifCond .ne 5, 3) := by decide +kernel
theorem dX7_good_29 : decode cX7_good 29 = .ok (.iconst (-1), 1) := by decide +kernel
theorem dX7_good_30 : decode cX7_good 30 = .ok (.ireturn, 1) := by decide +kernel
theorem dX7_good_31 : decode cX7_good 31 = .ok (.iconst 2, 1) := by decide +kernel
theorem dX7_good_32 : decode cX7_good 32 = .ok (.aload_n 0, 1) := by decide +kernel
theorem dX7_good_33 : decode cX7_good 33 = .ok (.getfield 20, 3) := by decide +kernel
theorem dX7_good_36 : decode cX7_good 36 = .ok (.iconst 0, 1) := by decide +kernel
theorem dX7_good_37 : decode cX7_good 37 = .ok (.iaload, 1) := by decide +kernel
theorem dX7_good_38 : decode cX7_good 38 = .ok (.imul, 1) := by decide +kernel
theorem dX7_good_39 : decode cX7_good 39 = .ok (.iconst 1, 1) := by decide +kernel
theorem dX7_good_40 : decode cX7_good 40 = .ok (.iadd, 1) := by decide +kernel
theorem dX7_good_41 : decode cX7_good 41 = .ok (.istore 4, 2) := by decide +kernel
theorem dX7_good_43 : decode cX7_good 43 = .ok (.iload_n 3, 1) := by decide +kernel
theorem dX7_good_44 : decode cX7_good 44 = .ok (.iconst 1, 1) := by decide +kernel
theorem dX7_good_45 : decode cX7_good 45 = .ok (.if_icmp .ne 12, 3) := by decide +kernel
theorem dX7_good_48 : decode cX7_good 48 = .ok (.iload 4, 2) := by decide +kernel
theorem dX7_good_50 : decode cX7_good 50 = .ok (.iload_n 1, 1) := by decide +kernel
theorem dX7_good_51 : decode cX7_good 51 = .ok (.invokestatic 217, 3) := by decide +kernel
theorem dX7_good_54 : decode cX7_good 54 = .ok (.goto 12, 3) := by decide +kernel
theorem dX7_good_57 : decode cX7_good 57 = .ok (.iload_n 1, 1) := by decide +kernel
theorem dX7_good_58 : decode cX7_good 58 = .ok (.iload_n 2, 1) := by decide +kernel
theorem dX7_good_59 : decode cX7_good 59 = .ok (.iload 4, 2) := by decide +kernel
theorem dX7_good_61 : decode cX7_good 61 = .ok (.iconst 1, 1) := by decide +kernel
theorem dX7_good_62 : decode cX7_good 62 = .ok (.isub, 1) := by decide +kernel
theorem dX7_good_63 : decode cX7_good 63 = .ok (.invokestatic 220, 3) := by decide +kernel
theorem dX7_good_66 : decode cX7_good 66 = .ok (.ireturn, 1) := by decide +kernel
theorem dX7_behind_0 : decode cX7_behind 0 = .ok (.iload_n 1, 1) := by decide +kernel
theorem dX7_behind_1 : decode cX7_behind 1 = .ok (.iconst 0, 1) := by decide +kernel
theorem dX7_behind_2 : decode cX7_behind 2 = .ok (.sipush 200, 3) := by decide +kernel
theorem dX7_behind_5 : decode cX7_behind 5 = .ok (.invokestatic 78, 3) := by decide +kernel
theorem dX7_behind_8 : decode cX7_behind 8 = .ok (.ifCond .eq 24, 3) := by decide +kernel
theorem dX7_behind_11 : decode cX7_behind 11 = .ok (.iload_n 2, 1) := by decide +kernel
theorem dX7_behind_12 : decode cX7_behind 12 = .ok (.bipush (-9), 2) := by decide +kernel
theorem dX7_behind_14 : decode cX7_behind 14 = .ok (.bipush 9, 2) := by decide +kernel
theorem dX7_behind_16 : decode cX7_behind 16 = .ok (.invokestatic 78, 3) := by decide +kernel
theorem dX7_behind_19 : decode cX7_behind 19 = .ok (.ifCond .eq 13, 3) := by decide +kernel
theorem dX7_behind_22 : decode cX7_behind 22 = .ok (.iload_n 3, 1) := by decide +kernel
theorem dX7_behind_23 : decode cX7_behind 23 = .ok (.iconst 0, 1) := by decide +kernel
theorem dX7_behind_24 : decode cX7_behind 24 = .ok (.bipush 40, 2) := by decide +kernel
theorem dX7_behind_26 : decode cX7_behind 26 = .ok (.invokestatic 78, 3) := by decide +kernel
theorem dX7_behind_29 : decode cX7_behind 29 = .ok (.ifCond .ne 6, 3) := by decide +kernel
theorem dX7_behind_32 : decode cX7_behind 32 = .ok (.ldc 101, 2) := by decide +kernel
theorem dX7_behind_34 : decode cX7_behind 34 = .ok (.ireturn, 1) := by decide +kernel
theorem dX7_behind_35 : decode cX7_behind 35 = .ok (.aload_n 0, 1) := by decide +kernel
theorem dX7_behind_36 : decode cX7_behind 36 = .ok (.getfield 44, 3) := by decide +kernel
theorem dX7_behind_39 : decode cX7_behind 39 = .ok (.iload_n 1, 1) := by decide +kernel
theorem dX7_behind_40 : decode cX7_behind 40 = .ok (.invokevirtual 90, 3) := by decide +kernel
theorem dX7_behind_43 : decode cX7_behind 43 = .ok (.aload_n 0, 1) := by decide +kernel
theorem dX7_behind_44 : decode cX7_behind 44 = .ok (.getfield 44, 3) := by decide +kernel
theorem dX7_behind_47 : decode cX7_behind 47 = .ok (.iload_n 2, 1) := by decide +kernel
theorem dX7_behind_48 : decode cX7_behind 48 = .ok (.putfield 118, 3) := by decide +kernel
theorem dX7_behind_51 : decode cX7_behind 51 = .ok (.iconst 0, 1) := by decide +kernel
theorem dX7_behind_52 : decode cX7_behind 52 = .ok (.istore 4, 2) := by decide +kernel
theorem dX7_behind_54 : decode cX7_behind 54 = .ok (.iload 4, 2) := by decide +kernel
theorem dX7_behind_56 : decode cX7_behind 56 = .ok (.iload_n 3, 1) := by decide +kernel
theorem dX7_behind_57 : decode cX7_behind 57 = .ok (.if_icmp .ge 27, 3) := by decide +kernel
theorem dX7_behind_60 : decode cX7_behind 60 = .ok (.aload_n 0, 1) := by decide +kernel
theorem dX7_behind_61 : decode cX7_behind 61 = .ok (.getfield 44, 3) := by decide +kernel
theorem dX7_behind_64 : decode cX7_behind 64 = .ok (.aload_n 0, 1) := by decide +kernel
theorem dX7_behind_65 : decode cX7_behind 65 = .ok (.getfield 44, 3) := by decide +kernel
theorem dX7_behind_68 : decode cX7_behind 68 = .ok (.getfield 109, 3) := by decide +kernel
theorem dX7_behind_71 : decode cX7_behind 71 = .ok (.aload_n 0, 1) := by decide +kernel
theorem dX7_behind_72 : decode cX7_behind 72 = .ok (.getfield 34, 3) := by decide +kernel
theorem dX7_behind_75 : decode cX7_behind 75 = .ok (.invokevirtual 224, 3) := by decide +kernel
theorem dX7_behind_78 : decode cX7_behind 78 = .ok (.iinc 4 1, 3) := by decide +kernel
theorem dX7_behind_81 : decode cX7_behind 81 = .ok (.goto (-27), 3) := by decide +kernel
theorem dX7_behind_84 : decode cX7_behind 84 = .ok (.aload_n 0, 1) := by decide +kernel
theorem dX7_behind_85 : decode cX7_behind 85 = .ok (.getfield 44, 3) := by decide +kernel
theorem dX7_behind_88 : decode cX7_behind 88 = .ok (.getfield 109, 3) := by decide +kernel
theorem dX7_behind_91 : decode cX7_behind 91 = .ok (.aload_n 0, 1) := by decide +kernel
theorem dX7_behind_92 : decode cX7_behind 92 = .ok (.getfield 44, 3) := by decide +kernel
theorem dX7_behind_95 : decode cX7_behind 95 = .ok (.getfield 112, 3) := by decide +kernel
theorem dX7_behind_98 : decode cX7_behind 98 = .ok (.isub, 1) := by decide +kernel
theorem dX7_behind_99 : decode cX7_behind 99 = .ok (.ireturn, 1) := by decide +kernel
theorem dX7_card_0 : decode cX7_card 0 = .ok (.iload_n 1, 1) := by decide +kernel
theorem dX7_card_1 : decode cX7_card 1 = .ok (.iconst 0, 1) := by decide +kernel
theorem dX7_card_2 : decode cX7_card 2 = .ok (.bipush 9, 2) := by decide +kernel
theorem dX7_card_4 : decode cX7_card 4 = .ok (.invokestatic 78, 3) := by decide +kernel
theorem dX7_card_7 : decode cX7_card 7 = .ok (.ifCond .eq 23, 3) := by decide +kernel
theorem dX7_card_10 : decode cX7_card 10 = .ok (.iload_n 2, 1) := by decide +kernel
theorem dX7_card_11 : decode cX7_card 11 = .ok (.iconst 0, 1) := by decide +kernel
theorem dX7_card_12 : decode cX7_card 12 = .ok (.iconst 1, 1) := by decide +kernel
theorem dX7_card_13 : decode cX7_card 13 = .ok (.invokestatic 78, 3) := by decide +kernel
theorem dX7_card_16 : decode cX7_card 16 = .ok (.ifCond .eq 14, 3) := by decide +kernel
theorem dX7_card_19 : decode cX7_card 19 = .ok (.iload_n 3, 1) := by decide +kernel
theorem dX7_card_20 : decode cX7_card 20 = .ok (.iconst 0, 1) := by decide +kernel
theorem dX7_card_21 : decode cX7_card 21 = .ok (.sipush 200, 3) := by decide +kernel
theorem dX7_card_24 : decode cX7_card 24 = .ok (.invokestatic 78, 3) := by decide +kernel
theorem dX7_card_27 : decode cX7_card 27 = .ok (.ifCond .ne 5, 3) := by decide +kernel
theorem dX7_card_30 : decode cX7_card 30 = .ok (.iconst (-1), 1) := by decide +kernel
theorem dX7_card_31 : decode cX7_card 31 = .ok (.ireturn, 1) := by decide +kernel
theorem dX7_card_32 : decode cX7_card 32 = .ok (.iload_n 2, 1) := by decide +kernel
theorem dX7_card_33 : decode cX7_card 33 = .ok (.ifCond .ne 13, 3) := by decide +kernel
theorem dX7_card_36 : decode cX7_card 36 = .ok (.aload_n 0, 1) := by decide +kernel
theorem dX7_card_37 : decode cX7_card 37 = .ok (.getfield 58, 3) := by decide +kernel
theorem dX7_card_40 : decode cX7_card 40 = .ok (.getfield 228, 3) := by decide +kernel
theorem dX7_card_43 : decode cX7_card 43 = .ok (.goto 10, 3) := by decide +kernel
theorem dX7_card_46 : decode cX7_card 46 = .ok (.aload_n 0, 1) := by decide +kernel
theorem dX7_card_47 : decode cX7_card 47 = .ok (.getfield 58, 3) := by decide +kernel
theorem dX7_card_50 : decode cX7_card 50 = .ok (.getfield 231, 3) := by decide +kernel
theorem dX7_card_53 : decode cX7_card 53 = .ok (.astore 4, 2) := by decide +kernel
theorem dX7_card_55 : decode cX7_card 55 = .ok (.aload 4, 2) := by decide +kernel
theorem dX7_card_57 : decode cX7_card 57 = .ok (.iload_n 1, 1) := by decide +kernel
theorem dX7_card_58 : decode cX7_card 58 = .ok (.iaload, 1) := by decide +kernel
theorem dX7_card_59 : decode cX7_card 59 = .ok (.istore 5, 2) := by decide +kernel
theorem dX7_card_61 : decode cX7_card 61 = .ok (.aload 4, 2) := by decide +kernel
theorem dX7_card_63 : decode cX7_card 63 = .ok (.iload_n 1, 1) := by decide +kernel
theorem dX7_card_64 : decode cX7_card 64 = .ok (.iload_n 3, 1) := by decide +kernel
theorem dX7_card_65 : decode cX7_card 65 = .ok (.iastore, 1) := by decide +kernel
theorem dX7_card_66 : decode cX7_card 66 = .ok (.iload 5, 2) := by decide +kernel
theorem dX7_card_68 : decode cX7_card 68 = .ok (.ireturn, 1) := by decide +kernel
theorem dX7_plan_0 : decode cX7_plan 0 = .ok (.iload_n 1, 1) := by decide +kernel
theorem dX7_plan_1 : decode cX7_plan 1 = .ok (.iconst 0, 1) := by decide +kernel
theorem dX7_plan_2 : decode cX7_plan 2 = .ok (.sipush 200, 3) := by decide +kernel
theorem dX7_plan_5 : decode cX7_plan 5 = .ok (.invokestatic 78, 3) := by decide +kernel
theorem dX7_plan_8 : decode cX7_plan 8 = .ok (.ifCond .eq 22, 3) := by decide +kernel
theorem dX7_plan_11 : decode cX7_plan 11 = .ok (.iload_n 2, 1) := by decide +kernel
theorem dX7_plan_12 : decode cX7_plan 12 = .ok (.iconst 1, 1) := by decide +kernel
theorem dX7_plan_13 : decode cX7_plan 13 = .ok (.bipush 10, 2) := by decide +kernel
theorem dX7_plan_15 : decode cX7_plan 15 = .ok (.invokestatic 78, 3) := by decide +kernel
theorem dX7_plan_18 : decode cX7_plan 18 = .ok (.ifCond .eq 12, 3) := by decide +kernel
theorem dX7_plan_21 : decode cX7_plan 21 = .ok (.iload_n 3, 1) := by decide +kernel
theorem dX7_plan_22 : decode cX7_plan 22 = .ok (.iconst 0, 1) := by decide +kernel
theorem dX7_plan_23 : decode cX7_plan 23 = .ok (.iconst 2, 1) := by decide +kernel
theorem dX7_plan_24 : decode cX7_plan 24 = .ok (.invokestatic 78, 3) := by decide +kernel
theorem dX7_plan_27 : decode cX7_plan 27 = .ok (.ifCond .ne 5, 3) := by decide +kernel
theorem dX7_plan_30 : decode cX7_plan 30 = .ok (.iconst (-1), 1) := by decide +kernel
theorem dX7_plan_31 : decode cX7_plan 31 = .ok (.ireturn, 1) := by decide +kernel
theorem dX7_plan_32 : decode cX7_plan 32 = .ok (.aload_n 0, 1) := by decide +kernel
theorem dX7_plan_33 : decode cX7_plan 33 = .ok (.getfield 58, 3) := by decide +kernel
theorem dX7_plan_36 : decode cX7_plan 36 = .ok (.iload_n 1, 1) := by decide +kernel
theorem dX7_plan_37 : decode cX7_plan 37 = .ok (.iload_n 2, 1) := by decide +kernel
theorem dX7_plan_38 : decode cX7_plan 38 = .ok (.aload_n 0, 1) := by decide +kernel
theorem dX7_plan_39 : decode cX7_plan 39 = .ok (.getfield 20, 3) := by decide +kernel
theorem dX7_plan_42 : decode cX7_plan 42 = .ok (.iconst 0, 1) := by decide +kernel
theorem dX7_plan_43 : decode cX7_plan 43 = .ok (.iaload, 1) := by decide +kernel
theorem dX7_plan_44 : decode cX7_plan 44 = .ok (.aload_n 0, 1) := by decide +kernel
theorem dX7_plan_45 : decode cX7_plan 45 = .ok (.getfield 20, 3) := by decide +kernel
theorem dX7_plan_48 : decode cX7_plan 48 = .ok (.iconst 2, 1) := by decide +kernel
theorem dX7_plan_49 : decode cX7_plan 49 = .ok (.iaload, 1) := by decide +kernel
theorem dX7_plan_50 : decode cX7_plan 50 = .ok (.aload_n 0, 1) := by decide +kernel
theorem dX7_plan_51 : decode cX7_plan 51 = .ok (.getfield 34, 3) := by decide +kernel
theorem dX7_plan_54 : decode cX7_plan 54 = .ok (.invokevirtual 234, 3) := by decide +kernel
theorem dX7_plan_57 : decode cX7_plan 57 = .ok (.aload_n 0, 1) := by decide +kernel
theorem dX7_plan_58 : decode cX7_plan 58 = .ok (.getfield 58, 3) := by decide +kernel
theorem dX7_plan_61 : decode cX7_plan 61 = .ok (.iload_n 3, 1) := by decide +kernel
theorem dX7_plan_62 : decode cX7_plan 62 = .ok (.iconst 2, 1) := by decide +kernel
theorem dX7_plan_63 : decode cX7_plan 63 = .ok (.if_icmp .eq 7, 3) := by decide +kernel
theorem dX7_plan_66 : decode cX7_plan 66 = .ok (.iconst 1, 1) := by decide +kernel
theorem dX7_plan_67 : decode cX7_plan 67 = .ok (.goto 4, 3) := by decide +kernel
theorem dX7_plan_70 : decode cX7_plan 70 = .ok (.iconst 0, 1) := by decide +kernel
theorem dX7_plan_71 : decode cX7_plan 71 = .ok (.invokevirtual 237, 3) := by decide +kernel
theorem dX7_plan_74 : decode cX7_plan 74 = .ok (.istore 4, 2) := by decide +kernel
theorem dX7_plan_76 : decode cX7_plan 76 = .ok (.iload_n 3, 1) := by decide +kernel
theorem dX7_plan_77 : decode cX7_plan 77 = .ok (.ifCond .ne 11, 3) := by decide +kernel
theorem dX7_plan_80 : decode cX7_plan 80 = .ok (.iload 4, 2) := by decide +kernel
theorem dX7_plan_82 : decode cX7_plan 82 = .ok (.invokestatic 241, 3) := by decide +kernel
theorem dX7_plan_85 : decode cX7_plan 85 = .ok (.goto 8, 3) := by decide +kernel
theorem dX7_plan_88 : decode cX7_plan 88 = .ok (.iload 4, 2) := by decide +kernel
theorem dX7_plan_90 : decode cX7_plan 90 = .ok (.invokestatic 244, 3) := by decide +kernel
theorem dX7_plan_93 : decode cX7_plan 93 = .ok (.ireturn, 1) := by decide +kernel
theorem dX7_hull_0 : decode cX7_hull 0 = .ok (.iload_n 1, 1) := by decide +kernel
theorem dX7_hull_1 : decode cX7_hull 1 = .ok (.iconst 0, 1) := by decide +kernel
theorem dX7_hull_2 : decode cX7_hull 2 = .ok (.iconst 5, 1) := by decide +kernel
theorem dX7_hull_3 : decode cX7_hull 3 = .ok (.invokestatic 78, 3) := by decide +kernel
theorem dX7_hull_6 : decode cX7_hull 6 = .ok (.ifCond .eq 14, 3) := by decide +kernel
theorem dX7_hull_9 : decode cX7_hull 9 = .ok (.iload_n 2, 1) := by decide +kernel
theorem dX7_hull_10 : decode cX7_hull 10 = .ok (.bipush (-9), 2) := by decide +kernel
theorem dX7_hull_12 : decode cX7_hull 12 = .ok (.bipush 9, 2) := by decide +kernel
theorem dX7_hull_14 : decode cX7_hull 14 = .ok (.invokestatic 78, 3) := by decide +kernel
theorem dX7_hull_17 : decode cX7_hull 17 = .ok (.ifCond .ne 6, 3) := by decide +kernel
theorem dX7_hull_20 : decode cX7_hull 20 = .ok (.ldc 101, 2) := by decide +kernel
theorem dX7_hull_22 : decode cX7_hull 22 = .ok (.ireturn, 1) := by decide +kernel
theorem dX7_hull_23 : decode cX7_hull 23 = .ok (.aload_n 0, 1) := by decide +kernel
theorem dX7_hull_24 : decode cX7_hull 24 = .ok (.getfield 65, 3) := by decide +kernel
theorem dX7_hull_27 : decode cX7_hull 27 = .ok (.getfield 247, 3) := by decide +kernel
theorem dX7_hull_30 : decode cX7_hull 30 = .ok (.iload_n 1, 1) := by decide +kernel
theorem dX7_hull_31 : decode cX7_hull 31 = .ok (.iaload, 1) := by decide +kernel
theorem dX7_hull_32 : decode cX7_hull 32 = .ok (.istore_n 3, 1) := by decide +kernel
theorem dX7_hull_33 : decode cX7_hull 33 = .ok (.aload_n 0, 1) := by decide +kernel
theorem dX7_hull_34 : decode cX7_hull 34 = .ok (.getfield 65, 3) := by decide +kernel
theorem dX7_hull_37 : decode cX7_hull 37 = .ok (.getfield 247, 3) := by decide +kernel
theorem dX7_hull_40 : decode cX7_hull 40 = .ok (.iload_n 1, 1) := by decide +kernel
theorem dX7_hull_41 : decode cX7_hull 41 = .ok (.iload_n 2, 1) := by decide +kernel
theorem dX7_hull_42 : decode cX7_hull 42 = .ok (.iastore, 1) := by decide +kernel
theorem dX7_hull_43 : decode cX7_hull 43 = .ok (.iload_n 3, 1) := by decide +kernel
theorem dX7_hull_44 : decode cX7_hull 44 = .ok (.ireturn, 1) := by decide +kernel
theorem dX7_beats_0 : decode cX7_beats 0 = .ok (.iload_n 1, 1) := by decide +kernel
theorem dX7_beats_1 : decode cX7_beats 1 = .ok (.sipush (-500), 3) := by decide +kernel
theorem dX7_beats_4 : decode cX7_beats 4 = .ok (.sipush 500, 3) := by decide +kernel
theorem dX7_beats_7 : decode cX7_beats 7 = .ok (.invokestatic 78, 3) := by decide +kernel
theorem dX7_beats_10 : decode cX7_beats 10 = .ok (.ifCond .eq 23, 3) := by decide +kernel
theorem dX7_beats_13 : decode cX7_beats 13 = .ok (.iload_n 2, 1) := by decide +kernel
theorem dX7_beats_14 : decode cX7_beats 14 = .ok (.iconst 0, 1) := by decide +kernel
theorem dX7_beats_15 : decode cX7_beats 15 = .ok (.iconst 3, 1) := by decide +kernel
theorem dX7_beats_16 : decode cX7_beats 16 = .ok (.invokestatic 78, 3) := by decide +kernel
theorem dX7_beats_19 : decode cX7_beats 19 = .ok (.ifCond .eq 14, 3) := by decide +kernel
theorem dX7_beats_22 : decode cX7_beats 22 = .ok (.aload_n 0, 1) := by decide +kernel
theorem dX7_beats_23 : decode cX7_beats 23 = .ok (.getfield 65, 3) := by decide +kernel
theorem dX7_beats_26 : decode cX7_beats 26 = .ok (.iload_n 1, 1) := by decide +kernel
theorem dX7_beats_27 : decode cX7_beats 27 = .ok (.invokevirtual 248, 3) := by decide +kernel
theorem dX7_beats_30 : decode cX7_beats 30 = .ok (.ifCond .ne 6, 3) := by decide +kernel
theorem dX7_beats_33 : decode cX7_beats 33 = .ok (.ldc 101, 2) := by decide +kernel
theorem dX7_beats_35 : decode cX7_beats 35 = .ok (.ireturn, 1) := by decide +kernel
theorem dX7_beats_36 : decode cX7_beats 36 = .ok (.iload_n 2, 1) := by decide +kernel
theorem dX7_beats_37 : decode cX7_beats 37 = .ok (.tableswitch 51 0 2 #[27, 35, 43], 27) := by decide +kernel
theorem dX7_beats_64 : decode cX7_beats 64 = .ok (.aload_n 0, 1) := by decide +kernel
theorem dX7_beats_65 : decode cX7_beats 65 = .ok (.getfield 65, 3) := by decide +kernel
theorem dX7_beats_68 : decode cX7_beats 68 = .ok (.getfield 251, 3) := by decide +kernel
theorem dX7_beats_71 : decode cX7_beats 71 = .ok (.ireturn, 1) := by decide +kernel
theorem dX7_beats_72 : decode cX7_beats 72 = .ok (.aload_n 0, 1) := by decide +kernel
theorem dX7_beats_73 : decode cX7_beats 73 = .ok (.getfield 65, 3) := by decide +kernel
theorem dX7_beats_76 : decode cX7_beats 76 = .ok (.getfield 254, 3) := by decide +kernel
theorem dX7_beats_79 : decode cX7_beats 79 = .ok (.ireturn, 1) := by decide +kernel
theorem dX7_beats_80 : decode cX7_beats 80 = .ok (.aload_n 0, 1) := by decide +kernel
theorem dX7_beats_81 : decode cX7_beats 81 = .ok (.getfield 65, 3) := by decide +kernel
theorem dX7_beats_84 : decode cX7_beats 84 = .ok (.getfield 257, 3) := by decide +kernel
theorem dX7_beats_87 : decode cX7_beats 87 = .ok (.ireturn, 1) := by decide +kernel
theorem dX7_beats_88 : decode cX7_beats 88 = .ok (.aload_n 0, 1) := by decide +kernel
theorem dX7_beats_89 : decode cX7_beats 89 = .ok (.getfield 65, 3) := by decide +kernel
theorem dX7_beats_92 : decode cX7_beats 92 = .ok (.getfield 260, 3) := by decide +kernel
theorem dX7_beats_95 : decode cX7_beats 95 = .ok (.ireturn, 1) := by decide +kernel
theorem dX7_reading_0 : decode cX7_reading 0 = .ok (.iload_n 1, 1) := by decide +kernel
theorem dX7_reading_1 : decode cX7_reading 1 = .ok (.iconst 0, 1) := by decide +kernel
theorem dX7_reading_2 : decode cX7_reading 2 = .ok (.bipush 6, 2) := by decide +kernel
theorem dX7_reading_4 : decode cX7_reading 4 = .ok (.invokestatic 78, 3) := by decide +kernel
theorem dX7_reading_7 : decode cX7_reading 7 = .ok (.ifCond .eq 11, 3) := by decide +kernel
theorem dX7_reading_10 : decode cX7_reading 10 = .ok (.aload_n 0, 1) := by decide +kernel
theorem dX7_reading_11 : decode cX7_reading 11 = .ok (.iload_n 2, 1) := by decide +kernel
theorem dX7_reading_12 : decode cX7_reading 12 = .ok (.invokevirtual 94, 3) := by decide +kernel
theorem dX7_reading_15 : decode cX7_reading 15 = .ok (.ifCond .ne 6, 3) := by decide +kernel
theorem dX7_reading_18 : decode cX7_reading 18 = .ok (.ldc 101, 2) := by decide +kernel
theorem dX7_reading_20 : decode cX7_reading 20 = .ok (.ireturn, 1) := by decide +kernel
theorem dX7_reading_21 : decode cX7_reading 21 = .ok (.aload_n 0, 1) := by decide +kernel
theorem dX7_reading_22 : decode cX7_reading 22 = .ok (.iload_n 1, 1) := by decide +kernel
theorem dX7_reading_23 : decode cX7_reading 23 = .ok (.aload_n 0, 1) := by decide +kernel
theorem dX7_reading_24 : decode cX7_reading 24 = .ok (.getfield 10, 3) := by decide +kernel
theorem dX7_reading_27 : decode cX7_reading 27 = .ok (.getfield 86, 3) := by decide +kernel
theorem dX7_reading_30 : decode cX7_reading 30 = .ok (.iload_n 2, 1) := by decide +kernel
theorem dX7_reading_31 : decode cX7_reading 31 = .ok (.aaload, 1) := by decide +kernel
theorem dX7_reading_32 : decode cX7_reading 32 = .ok (.invokevirtual 263, 3) := by decide +kernel
theorem dX7_reading_35 : decode cX7_reading 35 = .ok (.ireturn, 1) := by decide +kernel
theorem dX7_keep_0 : decode cX7_keep 0 = .ok (.iload_n 1, 1) := by decide +kernel
theorem dX7_keep_1 : decode cX7_keep 1 = .ok (.iconst 0, 1) := by decide +kernel
theorem dX7_keep_2 : decode cX7_keep 2 = .ok (.iconst 1, 1) := by decide +kernel
theorem dX7_keep_3 : decode cX7_keep 3 = .ok (.invokestatic 78, 3) := by decide +kernel
theorem dX7_keep_6 : decode cX7_keep 6 = .ok (.ifCond .ne 5, 3) := by decide +kernel
theorem dX7_keep_9 : decode cX7_keep 9 = .ok (.iconst (-1), 1) := by decide +kernel
theorem dX7_keep_10 : decode cX7_keep 10 = .ok (.ireturn, 1) := by decide +kernel
theorem dX7_keep_11 : decode cX7_keep 11 = .ok (.aload_n 0, 1) := by decide +kernel
theorem dX7_keep_12 : decode cX7_keep 12 = .ok (.getfield 16, 3) := by decide +kernel
theorem dX7_keep_15 : decode cX7_keep 15 = .ok (.iload_n 1, 1) := by decide +kernel
theorem dX7_keep_16 : decode cX7_keep 16 = .ok (.aaload, 1) := by decide +kernel
theorem dX7_keep_17 : decode cX7_keep 17 = .ok (.aload_n 0, 1) := by decide +kernel
theorem dX7_keep_18 : decode cX7_keep 18 = .ok (.getfield 10, 3) := by decide +kernel
theorem dX7_keep_21 : decode cX7_keep 21 = .ok (.invokevirtual 267, 3) := by decide +kernel
theorem dX7_keep_24 : decode cX7_keep 24 = .ok (.aload_n 0, 1) := by decide +kernel
theorem dX7_keep_25 : decode cX7_keep 25 = .ok (.getfield 16, 3) := by decide +kernel
theorem dX7_keep_28 : decode cX7_keep 28 = .ok (.iload_n 1, 1) := by decide +kernel
theorem dX7_keep_29 : decode cX7_keep 29 = .ok (.aaload, 1) := by decide +kernel
theorem dX7_keep_30 : decode cX7_keep 30 = .ok (.iconst 1, 1) := by decide +kernel
theorem dX7_keep_31 : decode cX7_keep 31 = .ok (.putfield 270, 3) := by decide +kernel
theorem dX7_keep_34 : decode cX7_keep 34 = .ok (.aload_n 0, 1) := by decide +kernel
theorem dX7_keep_35 : decode cX7_keep 35 = .ok (.getfield 10, 3) := by decide +kernel
theorem dX7_keep_38 : decode cX7_keep 38 = .ok (.getfield 171, 3) := by decide +kernel
theorem dX7_keep_41 : decode cX7_keep 41 = .ok (.ireturn, 1) := by decide +kernel
theorem dX7_back_0 : decode cX7_back 0 = .ok (.iload_n 1, 1) := by decide +kernel
theorem dX7_back_1 : decode cX7_back 1 = .ok (.iconst 0, 1) := by decide +kernel
theorem dX7_back_2 : decode cX7_back 2 = .ok (.iconst 1, 1) := by decide +kernel
theorem dX7_back_3 : decode cX7_back 3 = .ok (.invokestatic 78, 3) := by decide +kernel
theorem dX7_back_6 : decode cX7_back 6 = .ok (.ifCond .ne 5, 3) := by decide +kernel
theorem dX7_back_9 : decode cX7_back 9 = .ok (.iconst (-1), 1) := by decide +kernel
theorem dX7_back_10 : decode cX7_back 10 = .ok (.ireturn, 1) := by decide +kernel
theorem dX7_back_11 : decode cX7_back 11 = .ok (.aload_n 0, 1) := by decide +kernel
theorem dX7_back_12 : decode cX7_back 12 = .ok (.getfield 16, 3) := by decide +kernel
theorem dX7_back_15 : decode cX7_back 15 = .ok (.iload_n 1, 1) := by decide +kernel
theorem dX7_back_16 : decode cX7_back 16 = .ok (.aaload, 1) := by decide +kernel
theorem dX7_back_17 : decode cX7_back 17 = .ok (.getfield 270, 3) := by decide +kernel
theorem dX7_back_20 : decode cX7_back 20 = .ok (.ifCond .ne 6, 3) := by decide +kernel
theorem dX7_back_23 : decode cX7_back 23 = .ok (.bipush (-2), 2) := by decide +kernel
theorem dX7_back_25 : decode cX7_back 25 = .ok (.ireturn, 1) := by decide +kernel
theorem dX7_back_26 : decode cX7_back 26 = .ok (.aload_n 0, 1) := by decide +kernel
theorem dX7_back_27 : decode cX7_back 27 = .ok (.getfield 10, 3) := by decide +kernel
theorem dX7_back_30 : decode cX7_back 30 = .ok (.aload_n 0, 1) := by decide +kernel
theorem dX7_back_31 : decode cX7_back 31 = .ok (.getfield 16, 3) := by decide +kernel
theorem dX7_back_34 : decode cX7_back 34 = .ok (.iload_n 1, 1) := by decide +kernel
theorem dX7_back_35 : decode cX7_back 35 = .ok (.aaload, 1) := by decide +kernel
theorem dX7_back_36 : decode cX7_back 36 = .ok (.invokevirtual 267, 3) := by decide +kernel
theorem dX7_back_39 : decode cX7_back 39 = .ok (.aload_n 0, 1) := by decide +kernel
theorem dX7_back_40 : decode cX7_back 40 = .ok (.iconst 0, 1) := by decide +kernel
theorem dX7_back_41 : decode cX7_back 41 = .ok (.putfield 168, 3) := by decide +kernel
theorem dX7_back_44 : decode cX7_back 44 = .ok (.aload_n 0, 1) := by decide +kernel
theorem dX7_back_45 : decode cX7_back 45 = .ok (.getfield 10, 3) := by decide +kernel
theorem dX7_back_48 : decode cX7_back 48 = .ok (.getfield 171, 3) := by decide +kernel
theorem dX7_back_51 : decode cX7_back 51 = .ok (.ireturn, 1) := by decide +kernel
theorem dX7_count_0 : decode cX7_count 0 = .ok (.iload_n 1, 1) := by decide +kernel
theorem dX7_count_1 : decode cX7_count 1 = .ok (.tableswitch 63 0 3 #[31, 39, 47, 55], 31) := by decide +kernel
theorem dX7_count_32 : decode cX7_count 32 = .ok (.aload_n 0, 1) := by decide +kernel
theorem dX7_count_33 : decode cX7_count 33 = .ok (.getfield 10, 3) := by decide +kernel
theorem dX7_count_36 : decode cX7_count 36 = .ok (.getfield 82, 3) := by decide +kernel
theorem dX7_count_39 : decode cX7_count 39 = .ok (.ireturn, 1) := by decide +kernel
theorem dX7_count_40 : decode cX7_count 40 = .ok (.aload_n 0, 1) := by decide +kernel
theorem dX7_count_41 : decode cX7_count 41 = .ok (.getfield 10, 3) := by decide +kernel
theorem dX7_count_44 : decode cX7_count 44 = .ok (.getfield 171, 3) := by decide +kernel
theorem dX7_count_47 : decode cX7_count 47 = .ok (.ireturn, 1) := by decide +kernel
theorem dX7_count_48 : decode cX7_count 48 = .ok (.aload_n 0, 1) := by decide +kernel
theorem dX7_count_49 : decode cX7_count 49 = .ok (.getfield 27, 3) := by decide +kernel
theorem dX7_count_52 : decode cX7_count 52 = .ok (.getfield 136, 3) := by decide +kernel
theorem dX7_count_55 : decode cX7_count 55 = .ok (.ireturn, 1) := by decide +kernel
theorem dX7_count_56 : decode cX7_count 56 = .ok (.aload_n 0, 1) := by decide +kernel
theorem dX7_count_57 : decode cX7_count 57 = .ok (.getfield 10, 3) := by decide +kernel
theorem dX7_count_60 : decode cX7_count 60 = .ok (.getfield 133, 3) := by decide +kernel
theorem dX7_count_63 : decode cX7_count 63 = .ok (.ireturn, 1) := by decide +kernel
theorem dX7_count_64 : decode cX7_count 64 = .ok (.ldc 101, 2) := by decide +kernel
theorem dX7_count_66 : decode cX7_count 66 = .ok (.ireturn, 1) := by decide +kernel
theorem dX7_trace_0 : decode cX7_trace 0 = .ok (.aload_n 0, 1) := by decide +kernel
theorem dX7_trace_1 : decode cX7_trace 1 = .ok (.getfield 273, 3) := by decide +kernel
theorem dX7_trace_4 : decode cX7_trace 4 = .ok (.lreturn, 1) := by decide +kernel
theorem dX7_within_0 : decode cX7_within 0 = .ok (.iload_n 0, 1) := by decide +kernel
theorem dX7_within_1 : decode cX7_within 1 = .ok (.iload_n 1, 1) := by decide +kernel
theorem dX7_within_2 : decode cX7_within 2 = .ok (.if_icmp .lt 12, 3) := by decide +kernel
theorem dX7_within_5 : decode cX7_within 5 = .ok (.iload_n 0, 1) := by decide +kernel
theorem dX7_within_6 : decode cX7_within 6 = .ok (.iload_n 2, 1) := by decide +kernel
theorem dX7_within_7 : decode cX7_within 7 = .ok (.if_icmp .gt 7, 3) := by decide +kernel
theorem dX7_within_10 : decode cX7_within 10 = .ok (.iconst 1, 1) := by decide +kernel
theorem dX7_within_11 : decode cX7_within 11 = .ok (.goto 4, 3) := by decide +kernel
theorem dX7_within_14 : decode cX7_within 14 = .ok (.iconst 0, 1) := by decide +kernel
theorem dX7_within_15 : decode cX7_within 15 = .ok (.ireturn, 1) := by decide +kernel
theorem dX7_clamp_0 : decode cX7_clamp 0 = .ok (.iload_n 0, 1) := by decide +kernel
theorem dX7_clamp_1 : decode cX7_clamp 1 = .ok (.iload_n 1, 1) := by decide +kernel
theorem dX7_clamp_2 : decode cX7_clamp 2 = .ok (.if_icmp .ge 7, 3) := by decide +kernel
theorem dX7_clamp_5 : decode cX7_clamp 5 = .ok (.iload_n 1, 1) := by decide +kernel
theorem dX7_clamp_6 : decode cX7_clamp 6 = .ok (.goto 13, 3) := by decide +kernel
theorem dX7_clamp_9 : decode cX7_clamp 9 = .ok (.iload_n 0, 1) := by decide +kernel
theorem dX7_clamp_10 : decode cX7_clamp 10 = .ok (.iload_n 2, 1) := by decide +kernel
theorem dX7_clamp_11 : decode cX7_clamp 11 = .ok (.if_icmp .le 7, 3) := by decide +kernel
theorem dX7_clamp_14 : decode cX7_clamp 14 = .ok (.iload_n 2, 1) := by decide +kernel
theorem dX7_clamp_15 : decode cX7_clamp 15 = .ok (.goto 4, 3) := by decide +kernel
theorem dX7_clamp_18 : decode cX7_clamp 18 = .ok (.iload_n 0, 1) := by decide +kernel
theorem dX7_clamp_19 : decode cX7_clamp 19 = .ok (.ireturn, 1) := by decide +kernel
theorem dX7_isHere_0 : decode cX7_isHere 0 = .ok (.iload_n 1, 1) := by decide +kernel
theorem dX7_isHere_1 : decode cX7_isHere 1 = .ok (.ifCond .lt 18, 3) := by decide +kernel
theorem dX7_isHere_4 : decode cX7_isHere 4 = .ok (.iload_n 1, 1) := by decide +kernel
theorem dX7_isHere_5 : decode cX7_isHere 5 = .ok (.aload_n 0, 1) := by decide +kernel
theorem dX7_isHere_6 : decode cX7_isHere 6 = .ok (.getfield 10, 3) := by decide +kernel
theorem dX7_isHere_9 : decode cX7_isHere 9 = .ok (.getfield 82, 3) := by decide +kernel
theorem dX7_isHere_12 : decode cX7_isHere 12 = .ok (.if_icmp .ge 7, 3) := by decide +kernel
theorem dX7_isHere_15 : decode cX7_isHere 15 = .ok (.iconst 1, 1) := by decide +kernel
theorem dX7_isHere_16 : decode cX7_isHere 16 = .ok (.goto 4, 3) := by decide +kernel
theorem dX7_isHere_19 : decode cX7_isHere 19 = .ok (.iconst 0, 1) := by decide +kernel
theorem dX7_isHere_20 : decode cX7_isHere 20 = .ok (.ireturn, 1) := by decide +kernel
theorem dX7_isOf_0 : decode cX7_isOf 0 = .ok (.iload_n 0, 1) := by decide +kernel
theorem dX7_isOf_1 : decode cX7_isOf 1 = .ok (.iload_n 1, 1) := by decide +kernel
theorem dX7_isOf_2 : decode cX7_isOf 2 = .ok (.ishr, 1) := by decide +kernel
theorem dX7_isOf_3 : decode cX7_isOf 3 = .ok (.iconst 1, 1) := by decide +kernel
theorem dX7_isOf_4 : decode cX7_isOf 4 = .ok (.iand, 1) := by decide +kernel
theorem dX7_isOf_5 : decode cX7_isOf 5 = .ok (.ifCond .eq 7, 3) := by decide +kernel
theorem dX7_isOf_8 : decode cX7_isOf 8 = .ok (.iconst 1, 1) := by decide +kernel
theorem dX7_isOf_9 : decode cX7_isOf 9 = .ok (.goto 4, 3) := by decide +kernel
theorem dX7_isOf_12 : decode cX7_isOf 12 = .ok (.iconst 0, 1) := by decide +kernel
theorem dX7_isOf_13 : decode cX7_isOf 13 = .ok (.ireturn, 1) := by decide +kernel
theorem dX7_canRace_0 : decode cX7_canRace 0 = .ok (.iload_n 1, 1) := by decide +kernel
theorem dX7_canRace_1 : decode cX7_canRace 1 = .ok (.iconst 0, 1) := by decide +kernel
theorem dX7_canRace_2 : decode cX7_canRace 2 = .ok (.iconst 2, 1) := by decide +kernel
theorem dX7_canRace_3 : decode cX7_canRace 3 = .ok (.invokestatic 78, 3) := by decide +kernel
theorem dX7_canRace_6 : decode cX7_canRace 6 = .ok (.ifCond .eq 34, 3) := by decide +kernel
theorem dX7_canRace_9 : decode cX7_canRace 9 = .ok (.iload_n 2, 1) := by decide +kernel
theorem dX7_canRace_10 : decode cX7_canRace 10 = .ok (.iconst 0, 1) := by decide +kernel
theorem dX7_canRace_11 : decode cX7_canRace 11 = .ok (.iconst 1, 1) := by decide +kernel
theorem dX7_canRace_12 : decode cX7_canRace 12 = .ok (.aload_n 0, 1) := by decide +kernel
theorem dX7_canRace_13 : decode cX7_canRace 13 = .ok (.getfield 10, 3) := by decide +kernel
theorem dX7_canRace_16 : decode cX7_canRace 16 = .ok (.getfield 82, 3) := by decide +kernel
theorem dX7_canRace_19 : decode cX7_canRace 19 = .ok (.ishl, 1) := by decide +kernel
theorem dX7_canRace_20 : decode cX7_canRace 20 = .ok (.iconst 1, 1) := by decide +kernel
theorem dX7_canRace_21 : decode cX7_canRace 21 = .ok (.isub, 1) := by decide +kernel
theorem dX7_canRace_22 : decode cX7_canRace 22 = .ok (.invokestatic 78, 3) := by decide +kernel
theorem dX7_canRace_25 : decode cX7_canRace 25 = .ok (.ifCond .eq 15, 3) := by decide +kernel
theorem dX7_canRace_28 : decode cX7_canRace 28 = .ok (.iload_n 2, 1) := by decide +kernel
theorem dX7_canRace_29 : decode cX7_canRace 29 = .ok (.invokestatic 200, 3) := by decide +kernel
theorem dX7_canRace_32 : decode cX7_canRace 32 = .ok (.iconst 2, 1) := by decide +kernel
theorem dX7_canRace_33 : decode cX7_canRace 33 = .ok (.if_icmp .lt 7, 3) := by decide +kernel
theorem dX7_canRace_36 : decode cX7_canRace 36 = .ok (.iconst 1, 1) := by decide +kernel
theorem dX7_canRace_37 : decode cX7_canRace 37 = .ok (.goto 4, 3) := by decide +kernel
theorem dX7_canRace_40 : decode cX7_canRace 40 = .ok (.iconst 0, 1) := by decide +kernel
theorem dX7_canRace_41 : decode cX7_canRace 41 = .ok (.ireturn, 1) := by decide +kernel
theorem dX7_canAsk_0 : decode cX7_canAsk 0 = .ok (.aload_n 0, 1) := by decide +kernel
theorem dX7_canAsk_1 : decode cX7_canAsk 1 = .ok (.iload_n 1, 1) := by decide +kernel
theorem dX7_canAsk_2 : decode cX7_canAsk 2 = .ok (.iload_n 2, 1) := by decide +kernel
theorem dX7_canAsk_3 : decode cX7_canAsk 3 = .ok (.invokevirtual 153, 3) := by decide +kernel
theorem dX7_canAsk_6 : decode cX7_canAsk 6 = .ok (.ifCond .eq 28, 3) := by decide +kernel
theorem dX7_canAsk_9 : decode cX7_canAsk 9 = .ok (.iload_n 3, 1) := by decide +kernel
theorem dX7_canAsk_10 : decode cX7_canAsk 10 = .ok (.iconst (-1), 1) := by decide +kernel
theorem dX7_canAsk_11 : decode cX7_canAsk 11 = .ok (.if_icmp .eq 19, 3) := by decide +kernel
theorem dX7_canAsk_14 : decode cX7_canAsk 14 = .ok (.aload_n 0, 1) := by decide +kernel
theorem dX7_canAsk_15 : decode cX7_canAsk 15 = .ok (.iload_n 3, 1) := by decide +kernel
theorem dX7_canAsk_16 : decode cX7_canAsk 16 = .ok (.invokevirtual 94, 3) := by decide +kernel
theorem dX7_canAsk_19 : decode cX7_canAsk 19 = .ok (.ifCond .eq 15, 3) := by decide +kernel
theorem dX7_canAsk_22 : decode cX7_canAsk 22 = .ok (.iload_n 2, 1) := by decide +kernel
theorem dX7_canAsk_23 : decode cX7_canAsk 23 = .ok (.iload_n 3, 1) := by decide +kernel
theorem dX7_canAsk_24 : decode cX7_canAsk 24 = .ok (.invokestatic 161, 3) := by decide +kernel
theorem dX7_canAsk_27 : decode cX7_canAsk 27 = .ok (.ifCond .eq 7, 3) := by decide +kernel
theorem dX7_canAsk_30 : decode cX7_canAsk 30 = .ok (.iconst 1, 1) := by decide +kernel
theorem dX7_canAsk_31 : decode cX7_canAsk 31 = .ok (.goto 4, 3) := by decide +kernel
theorem dX7_canAsk_34 : decode cX7_canAsk 34 = .ok (.iconst 0, 1) := by decide +kernel
theorem dX7_canAsk_35 : decode cX7_canAsk 35 = .ok (.ireturn, 1) := by decide +kernel
theorem dX7_leastMark_0 : decode cX7_leastMark 0 = .ok (.sipush 200, 3) := by decide +kernel
theorem dX7_leastMark_3 : decode cX7_leastMark 3 = .ok (.istore_n 2, 1) := by decide +kernel
theorem dX7_leastMark_4 : decode cX7_leastMark 4 = .ok (.iconst 0, 1) := by decide +kernel
theorem dX7_leastMark_5 : decode cX7_leastMark 5 = .ok (.istore_n 3, 1) := by decide +kernel
theorem dX7_leastMark_6 : decode cX7_leastMark 6 = .ok (.iload_n 3, 1) := by decide +kernel
theorem dX7_leastMark_7 : decode cX7_leastMark 7 = .ok (.aload_n 0, 1) := by decide +kernel
theorem dX7_leastMark_8 : decode cX7_leastMark 8 = .ok (.getfield 10, 3) := by decide +kernel
theorem dX7_leastMark_11 : decode cX7_leastMark 11 = .ok (.getfield 82, 3) := by decide +kernel
theorem dX7_leastMark_14 : decode cX7_leastMark 14 = .ok (.if_icmp .ge 34, 3) := by decide +kernel
theorem dX7_leastMark_17 : decode cX7_leastMark 17 = .ok (.iload_n 1, 1) := by decide +kernel
theorem dX7_leastMark_18 : decode cX7_leastMark 18 = .ok (.iload_n 3, 1) := by decide +kernel
theorem dX7_leastMark_19 : decode cX7_leastMark 19 = .ok (.invokestatic 161, 3) := by decide +kernel
theorem dX7_leastMark_22 : decode cX7_leastMark 22 = .ok (.ifCond .eq 20, 3) := by decide +kernel
theorem dX7_leastMark_25 : decode cX7_leastMark 25 = .ok (.iload_n 2, 1) := by decide +kernel
theorem dX7_leastMark_26 : decode cX7_leastMark 26 = .ok (.aload_n 0, 1) := by decide +kernel
theorem dX7_leastMark_27 : decode cX7_leastMark 27 = .ok (.getfield 10, 3) := by decide +kernel
theorem dX7_leastMark_30 : decode cX7_leastMark 30 = .ok (.getfield 86, 3) := by decide +kernel
theorem dX7_leastMark_33 : decode cX7_leastMark 33 = .ok (.iload_n 3, 1) := by decide +kernel
theorem dX7_leastMark_34 : decode cX7_leastMark 34 = .ok (.aaload, 1) := by decide +kernel
theorem dX7_leastMark_35 : decode cX7_leastMark 35 = .ok (.getfield 112, 3) := by decide +kernel
theorem dX7_leastMark_38 : decode cX7_leastMark 38 = .ok (.invokestatic 276, 3) := by decide +kernel
theorem dX7_leastMark_41 : decode cX7_leastMark 41 = .ok (.istore_n 2, 1) := by decide +kernel
theorem dX7_leastMark_42 : decode cX7_leastMark 42 = .ok (.iinc 3 1, 3) := by decide +kernel
theorem dX7_leastMark_45 : decode cX7_leastMark 45 = .ok (.goto (-39), 3) := by decide +kernel
theorem dX7_leastMark_48 : decode cX7_leastMark 48 = .ok (.iload_n 2, 1) := by decide +kernel
theorem dX7_leastMark_49 : decode cX7_leastMark 49 = .ok (.ireturn, 1) := by decide +kernel
theorem dX7_bareLevel_0 : decode cX7_bareLevel 0 = .ok (.aload_n 1, 1) := by decide +kernel
theorem dX7_bareLevel_1 : decode cX7_bareLevel 1 = .ok (.getfield 115, 3) := by decide +kernel
theorem dX7_bareLevel_4 : decode cX7_bareLevel 4 = .ok (.iconst 1, 1) := by decide +kernel
theorem dX7_bareLevel_5 : decode cX7_bareLevel 5 = .ok (.if_icmp .ne 12, 3) := by decide +kernel
theorem dX7_bareLevel_8 : decode cX7_bareLevel 8 = .ok (.aload_n 0, 1) := by decide +kernel
theorem dX7_bareLevel_9 : decode cX7_bareLevel 9 = .ok (.getfield 20, 3) := by decide +kernel
theorem dX7_bareLevel_12 : decode cX7_bareLevel 12 = .ok (.iconst 1, 1) := by decide +kernel
theorem dX7_bareLevel_13 : decode cX7_bareLevel 13 = .ok (.iaload, 1) := by decide +kernel
theorem dX7_bareLevel_14 : decode cX7_bareLevel 14 = .ok (.goto 21, 3) := by decide +kernel
theorem dX7_bareLevel_17 : decode cX7_bareLevel 17 = .ok (.aload_n 1, 1) := by decide +kernel
theorem dX7_bareLevel_18 : decode cX7_bareLevel 18 = .ok (.getfield 115, 3) := by decide +kernel
theorem dX7_bareLevel_21 : decode cX7_bareLevel 21 = .ok (.iconst 2, 1) := by decide +kernel
theorem dX7_bareLevel_22 : decode cX7_bareLevel 22 = .ok (.if_icmp .ne 12, 3) := by decide +kernel
theorem dX7_bareLevel_25 : decode cX7_bareLevel 25 = .ok (.aload_n 0, 1) := by decide +kernel
theorem dX7_bareLevel_26 : decode cX7_bareLevel 26 = .ok (.getfield 20, 3) := by decide +kernel
theorem dX7_bareLevel_29 : decode cX7_bareLevel 29 = .ok (.iconst 2, 1) := by decide +kernel
theorem dX7_bareLevel_30 : decode cX7_bareLevel 30 = .ok (.iaload, 1) := by decide +kernel
theorem dX7_bareLevel_31 : decode cX7_bareLevel 31 = .ok (.goto 4, 3) := by decide +kernel
theorem dX7_bareLevel_34 : decode cX7_bareLevel 34 = .ok (.iconst 0, 1) := by decide +kernel
theorem dX7_bareLevel_35 : decode cX7_bareLevel 35 = .ok (.istore_n 3, 1) := by decide +kernel
theorem dX7_bareLevel_36 : decode cX7_bareLevel 36 = .ok (.aload_n 1, 1) := by decide +kernel
theorem dX7_bareLevel_37 : decode cX7_bareLevel 37 = .ok (.getfield 109, 3) := by decide +kernel
theorem dX7_bareLevel_40 : decode cX7_bareLevel 40 = .ok (.aload_n 1, 1) := by decide +kernel
theorem dX7_bareLevel_41 : decode cX7_bareLevel 41 = .ok (.getfield 281, 3) := by decide +kernel
theorem dX7_bareLevel_44 : decode cX7_bareLevel 44 = .ok (.iload_n 2, 1) := by decide +kernel
theorem dX7_bareLevel_45 : decode cX7_bareLevel 45 = .ok (.iaload, 1) := by decide +kernel
theorem dX7_bareLevel_46 : decode cX7_bareLevel 46 = .ok (.iadd, 1) := by decide +kernel
theorem dX7_bareLevel_47 : decode cX7_bareLevel 47 = .ok (.iload_n 3, 1) := by decide +kernel
theorem dX7_bareLevel_48 : decode cX7_bareLevel 48 = .ok (.isub, 1) := by decide +kernel
theorem dX7_bareLevel_49 : decode cX7_bareLevel 49 = .ok (.ireturn, 1) := by decide +kernel
theorem dX7_runOne_0 : decode cX7_runOne 0 = .ok (.aload_n 0, 1) := by decide +kernel
theorem dX7_runOne_1 : decode cX7_runOne 1 = .ok (.getfield 10, 3) := by decide +kernel
theorem dX7_runOne_4 : decode cX7_runOne 4 = .ok (.getfield 86, 3) := by decide +kernel
theorem dX7_runOne_7 : decode cX7_runOne 7 = .ok (.iload_n 1, 1) := by decide +kernel
theorem dX7_runOne_8 : decode cX7_runOne 8 = .ok (.aaload, 1) := by decide +kernel
theorem dX7_runOne_9 : decode cX7_runOne 9 = .ok (.astore 4, 2) := by decide +kernel
theorem dX7_runOne_11 : decode cX7_runOne 11 = .ok (.aload_n 0, 1) := by decide +kernel
theorem dX7_runOne_12 : decode cX7_runOne 12 = .ok (.getfield 20, 3) := by decide +kernel
theorem dX7_runOne_15 : decode cX7_runOne 15 = .ok (.iconst 0, 1) := by decide +kernel
theorem dX7_runOne_16 : decode cX7_runOne 16 = .ok (.iaload, 1) := by decide +kernel
theorem dX7_runOne_17 : decode cX7_runOne 17 = .ok (.istore 5, 2) := by decide +kernel
theorem dX7_runOne_19 : decode cX7_runOne 19 = .ok (.aload_n 0, 1) := by decide +kernel
theorem dX7_runOne_20 : decode cX7_runOne 20 = .ok (.getfield 75, 3) := by decide +kernel
theorem dX7_runOne_23 : decode cX7_runOne 23 = .ok (.iload_n 1, 1) := by decide +kernel
theorem dX7_runOne_24 : decode cX7_runOne 24 = .ok (.aload_n 0, 1) := by decide +kernel
theorem dX7_runOne_25 : decode cX7_runOne 25 = .ok (.getfield 10, 3) := by decide +kernel
theorem dX7_runOne_28 : decode cX7_runOne 28 = .ok (.invokevirtual 284, 3) := by decide +kernel
theorem dX7_runOne_31 : decode cX7_runOne 31 = .ok (.bipush 16, 2) := by decide +kernel
theorem dX7_runOne_33 : decode cX7_runOne 33 = .ok (.iushr, 1) := by decide +kernel
theorem dX7_runOne_34 : decode cX7_runOne 34 = .ok (.iconst 2, 1) := by decide +kernel
theorem dX7_runOne_35 : decode cX7_runOne 35 = .ok (.iload 5, 2) := by decide +kernel
theorem dX7_runOne_37 : decode cX7_runOne 37 = .ok (.imul, 1) := by decide +kernel
theorem dX7_runOne_38 : decode cX7_runOne 38 = .ok (.iconst 1, 1) := by decide +kernel
theorem dX7_runOne_39 : decode cX7_runOne 39 = .ok (.iadd, 1) := by decide +kernel
theorem dX7_runOne_40 : decode cX7_runOne 40 = .ok (.irem, 1) := by decide +kernel
theorem dX7_runOne_41 : decode cX7_runOne 41 = .ok (.iload 5, 2) := by decide +kernel
theorem dX7_runOne_43 : decode cX7_runOne 43 = .ok (.isub, 1) := by decide +kernel
theorem dX7_runOne_44 : decode cX7_runOne 44 = .ok (.iastore, 1) := by decide +kernel
theorem dX7_runOne_45 : decode cX7_runOne 45 = .ok (.aload_n 0, 1) := by decide +kernel
theorem dX7_runOne_46 : decode cX7_runOne 46 = .ok (.getfield 72, 3) := by decide +kernel
theorem dX7_runOne_49 : decode cX7_runOne 49 = .ok (.iload_n 1, 1) := by decide +kernel
theorem dX7_runOne_50 : decode cX7_runOne 50 = .ok (.aload 4, 2) := by decide +kernel
theorem dX7_runOne_52 : decode cX7_runOne 52 = .ok (.getfield 112, 3) := by decide +kernel
theorem dX7_runOne_55 : decode cX7_runOne 55 = .ok (.iload_n 3, 1) := by decide +kernel
theorem dX7_runOne_56 : decode cX7_runOne 56 = .ok (.isub, 1) := by decide +kernel
theorem dX7_runOne_57 : decode cX7_runOne 57 = .ok (.iastore, 1) := by decide +kernel
theorem dX7_runOne_58 : decode cX7_runOne 58 = .ok (.aload_n 0, 1) := by decide +kernel
theorem dX7_runOne_59 : decode cX7_runOne 59 = .ok (.aload 4, 2) := by decide +kernel
theorem dX7_runOne_61 : decode cX7_runOne 61 = .ok (.iload_n 2, 1) := by decide +kernel
theorem dX7_runOne_62 : decode cX7_runOne 62 = .ok (.invokevirtual 288, 3) := by decide +kernel
theorem dX7_runOne_65 : decode cX7_runOne 65 = .ok (.aload_n 0, 1) := by decide +kernel
theorem dX7_runOne_66 : decode cX7_runOne 66 = .ok (.getfield 75, 3) := by decide +kernel
theorem dX7_runOne_69 : decode cX7_runOne 69 = .ok (.iload_n 1, 1) := by decide +kernel
theorem dX7_runOne_70 : decode cX7_runOne 70 = .ok (.iaload, 1) := by decide +kernel
theorem dX7_runOne_71 : decode cX7_runOne 71 = .ok (.iadd, 1) := by decide +kernel
theorem dX7_runOne_72 : decode cX7_runOne 72 = .ok (.istore 6, 2) := by decide +kernel
theorem dX7_runOne_74 : decode cX7_runOne 74 = .ok (.aload_n 0, 1) := by decide +kernel
theorem dX7_runOne_75 : decode cX7_runOne 75 = .ok (.getfield 69, 3) := by decide +kernel
theorem dX7_runOne_78 : decode cX7_runOne 78 = .ok (.iload_n 1, 1) := by decide +kernel
theorem dX7_runOne_79 : decode cX7_runOne 79 = .ok (.iload 6, 2) := by decide +kernel
theorem dX7_runOne_81 : decode cX7_runOne 81 = .ok (.aload_n 0, 1) := by decide +kernel
theorem dX7_runOne_82 : decode cX7_runOne 82 = .ok (.getfield 72, 3) := by decide +kernel
theorem dX7_runOne_85 : decode cX7_runOne 85 = .ok (.iload_n 1, 1) := by decide +kernel
theorem dX7_runOne_86 : decode cX7_runOne 86 = .ok (.iaload, 1) := by decide +kernel
theorem dX7_runOne_87 : decode cX7_runOne 87 = .ok (.isub, 1) := by decide +kernel
theorem dX7_runOne_88 : decode cX7_runOne 88 = .ok (.iastore, 1) := by decide +kernel
theorem dX7_runOne_89 : decode cX7_runOne 89 = .ok (.aload 4, 2) := by decide +kernel
theorem dX7_runOne_91 : decode cX7_runOne 91 = .ok (.iload 6, 2) := by decide +kernel
theorem dX7_runOne_93 : decode cX7_runOne 93 = .ok (.aload_n 0, 1) := by decide +kernel
theorem dX7_runOne_94 : decode cX7_runOne 94 = .ok (.getfield 34, 3) := by decide +kernel
theorem dX7_runOne_97 : decode cX7_runOne 97 = .ok (.invokevirtual 224, 3) := by decide +kernel
theorem dX7_runOne_100 : decode cX7_runOne 100 = .ok (.return_, 1) := by decide +kernel
theorem dX7_enter_0 : decode cX7_enter 0 = .ok (.aload_n 0, 1) := by decide +kernel
theorem dX7_enter_1 : decode cX7_enter 1 = .ok (.iload_n 2, 1) := by decide +kernel
theorem dX7_enter_2 : decode cX7_enter 2 = .ok (.invokevirtual 157, 3) := by decide +kernel
theorem dX7_enter_5 : decode cX7_enter 5 = .ok (.istore_n 3, 1) := by decide +kernel
theorem dX7_enter_6 : decode cX7_enter 6 = .ok (.aload_n 0, 1) := by decide +kernel
theorem dX7_enter_7 : decode cX7_enter 7 = .ok (.getfield 51, 3) := by decide +kernel
theorem dX7_enter_10 : decode cX7_enter 10 = .ok (.aload_n 0, 1) := by decide +kernel
theorem dX7_enter_11 : decode cX7_enter 11 = .ok (.getfield 20, 3) := by decide +kernel
theorem dX7_enter_14 : decode cX7_enter 14 = .ok (.iconst 0, 1) := by decide +kernel
theorem dX7_enter_15 : decode cX7_enter 15 = .ok (.iaload, 1) := by decide +kernel
theorem dX7_enter_16 : decode cX7_enter 16 = .ok (.invokevirtual 292, 3) := by decide +kernel
theorem dX7_enter_19 : decode cX7_enter 19 = .ok (.iconst 0, 1) := by decide +kernel
theorem dX7_enter_20 : decode cX7_enter 20 = .ok (.istore 4, 2) := by decide +kernel
theorem dX7_enter_22 : decode cX7_enter 22 = .ok (.iload 4, 2) := by decide +kernel
theorem dX7_enter_24 : decode cX7_enter 24 = .ok (.aload_n 0, 1) := by decide +kernel
theorem dX7_enter_25 : decode cX7_enter 25 = .ok (.getfield 10, 3) := by decide +kernel
theorem dX7_enter_28 : decode cX7_enter 28 = .ok (.getfield 82, 3) := by decide +kernel
theorem dX7_enter_31 : decode cX7_enter 31 = .ok (.if_icmp .ge 51, 3) := by decide +kernel
theorem dX7_enter_34 : decode cX7_enter 34 = .ok (.iload_n 2, 1) := by decide +kernel
theorem dX7_enter_35 : decode cX7_enter 35 = .ok (.iload 4, 2) := by decide +kernel
theorem dX7_enter_37 : decode cX7_enter 37 = .ok (.invokestatic 161, 3) := by decide +kernel
theorem dX7_enter_40 : decode cX7_enter 40 = .ok (.ifCond .eq 36, 3) := by decide +kernel
theorem dX7_enter_43 : decode cX7_enter 43 = .ok (.aload_n 0, 1) := by decide +kernel
theorem dX7_enter_44 : decode cX7_enter 44 = .ok (.getfield 10, 3) := by decide +kernel
theorem dX7_enter_47 : decode cX7_enter 47 = .ok (.getfield 86, 3) := by decide +kernel
theorem dX7_enter_50 : decode cX7_enter 50 = .ok (.iload 4, 2) := by decide +kernel
theorem dX7_enter_52 : decode cX7_enter 52 = .ok (.aaload, 1) := by decide +kernel
theorem dX7_enter_53 : decode cX7_enter 53 = .ok (.astore 5, 2) := by decide +kernel
theorem dX7_enter_55 : decode cX7_enter 55 = .ok (.aload_n 0, 1) := by decide +kernel
theorem dX7_enter_56 : decode cX7_enter 56 = .ok (.getfield 51, 3) := by decide +kernel
theorem dX7_enter_59 : decode cX7_enter 59 = .ok (.aload_n 0, 1) := by decide +kernel
theorem dX7_enter_60 : decode cX7_enter 60 = .ok (.aload 5, 2) := by decide +kernel
theorem dX7_enter_62 : decode cX7_enter 62 = .ok (.iload_n 1, 1) := by decide +kernel
theorem dX7_enter_63 : decode cX7_enter 63 = .ok (.invokevirtual 288, 3) := by decide +kernel
theorem dX7_enter_66 : decode cX7_enter 66 = .ok (.aload 5, 2) := by decide +kernel
theorem dX7_enter_68 : decode cX7_enter 68 = .ok (.getfield 112, 3) := by decide +kernel
theorem dX7_enter_71 : decode cX7_enter 71 = .ok (.iload_n 3, 1) := by decide +kernel
theorem dX7_enter_72 : decode cX7_enter 72 = .ok (.isub, 1) := by decide +kernel
theorem dX7_enter_73 : decode cX7_enter 73 = .ok (.invokevirtual 293, 3) := by decide +kernel
theorem dX7_enter_76 : decode cX7_enter 76 = .ok (.iinc 4 1, 3) := by decide +kernel
theorem dX7_enter_79 : decode cX7_enter 79 = .ok (.goto (-57), 3) := by decide +kernel
theorem dX7_enter_82 : decode cX7_enter 82 = .ok (.return_, 1) := by decide +kernel
theorem dX7_placeIn_0 : decode cX7_placeIn 0 = .ok (.iload_n 0, 1) := by decide +kernel
theorem dX7_placeIn_1 : decode cX7_placeIn 1 = .ok (.iconst 1, 1) := by decide +kernel
theorem dX7_placeIn_2 : decode cX7_placeIn 2 = .ok (.iload_n 1, 1) := by decide +kernel
theorem dX7_placeIn_3 : decode cX7_placeIn 3 = .ok (.ishl, 1) := by decide +kernel
theorem dX7_placeIn_4 : decode cX7_placeIn 4 = .ok (.iconst 1, 1) := by decide +kernel
theorem dX7_placeIn_5 : decode cX7_placeIn 5 = .ok (.isub, 1) := by decide +kernel
theorem dX7_placeIn_6 : decode cX7_placeIn 6 = .ok (.iand, 1) := by decide +kernel
theorem dX7_placeIn_7 : decode cX7_placeIn 7 = .ok (.invokestatic 200, 3) := by decide +kernel
theorem dX7_placeIn_10 : decode cX7_placeIn 10 = .ok (.ireturn, 1) := by decide +kernel
theorem dX7_rowsTooGood_0 : decode cX7_rowsTooGood 0 = .ok (.iconst 0, 1) := by decide +kernel
theorem dX7_rowsTooGood_1 : decode cX7_rowsTooGood 1 = .ok (.istore_n 3, 1) := by decide +kernel
theorem dX7_rowsTooGood_2 : decode cX7_rowsTooGood 2 = .ok (.iconst 0, 1) := by decide +kernel
theorem dX7_rowsTooGood_3 : decode cX7_rowsTooGood 3 = .ok (.istore 4, 2) := by decide +kernel
theorem dX7_rowsTooGood_5 : decode cX7_rowsTooGood 5 = .ok (.iload 4, 2) := by decide +kernel
theorem dX7_rowsTooGood_7 : decode cX7_rowsTooGood 7 = .ok (.iload_n 2, 1) := by decide +kernel
theorem dX7_rowsTooGood_8 : decode cX7_rowsTooGood 8 = .ok (.if_icmp .gt 42, 3) := by decide +kernel
theorem dX7_rowsTooGood_11 : decode cX7_rowsTooGood 11 = .ok (.iload_n 3, 1) := by decide +kernel
theorem dX7_rowsTooGood_12 : decode cX7_rowsTooGood 12 = .ok (.iload_n 0, 1) := by decide +kernel
theorem dX7_rowsTooGood_13 : decode cX7_rowsTooGood 13 = .ok (.iload 4, 2) := by decide +kernel
theorem dX7_rowsTooGood_15 : decode cX7_rowsTooGood 15 = .ok (.iload_n 2, 1) := by decide +kernel
theorem dX7_rowsTooGood_16 : decode cX7_rowsTooGood 16 = .ok (.invokestatic 296, 3) := by decide +kernel
theorem dX7_rowsTooGood_19 : decode cX7_rowsTooGood 19 = .ok (.iadd, 1) := by decide +kernel
theorem dX7_rowsTooGood_20 : decode cX7_rowsTooGood 20 = .ok (.istore_n 3, 1) := by decide +kernel
theorem dX7_rowsTooGood_21 : decode cX7_rowsTooGood 21 = .ok (.iload_n 1, 1) := by decide +kernel
theorem dX7_rowsTooGood_22 : decode cX7_rowsTooGood 22 = .ok (.ifCond .le 22, 3) := by decide +kernel
theorem dX7_rowsTooGood_25 : decode cX7_rowsTooGood 25 = .ok (.iload_n 3, 1) := by decide +kernel
theorem dX7_rowsTooGood_26 : decode cX7_rowsTooGood 26 = .ok (.iload_n 0, 1) := by decide +kernel
theorem dX7_rowsTooGood_27 : decode cX7_rowsTooGood 27 = .ok (.iload 4, 2) := by decide +kernel
theorem dX7_rowsTooGood_29 : decode cX7_rowsTooGood 29 = .ok (.iload_n 2, 1) := by decide +kernel
theorem dX7_rowsTooGood_30 : decode cX7_rowsTooGood 30 = .ok (.iload 4, 2) := by decide +kernel
theorem dX7_rowsTooGood_32 : decode cX7_rowsTooGood 32 = .ok (.iload_n 1, 1) := by decide +kernel
theorem dX7_rowsTooGood_33 : decode cX7_rowsTooGood 33 = .ok (.iadd, 1) := by decide +kernel
theorem dX7_rowsTooGood_34 : decode cX7_rowsTooGood 34 = .ok (.iconst 1, 1) := by decide +kernel
theorem dX7_rowsTooGood_35 : decode cX7_rowsTooGood 35 = .ok (.isub, 1) := by decide +kernel
theorem dX7_rowsTooGood_36 : decode cX7_rowsTooGood 36 = .ok (.invokestatic 276, 3) := by decide +kernel
theorem dX7_rowsTooGood_39 : decode cX7_rowsTooGood 39 = .ok (.invokestatic 296, 3) := by decide +kernel
theorem dX7_rowsTooGood_42 : decode cX7_rowsTooGood 42 = .ok (.isub, 1) := by decide +kernel
theorem dX7_rowsTooGood_43 : decode cX7_rowsTooGood 43 = .ok (.istore_n 3, 1) := by decide +kernel
theorem dX7_rowsTooGood_44 : decode cX7_rowsTooGood 44 = .ok (.iinc 4 1, 3) := by decide +kernel
theorem dX7_rowsTooGood_47 : decode cX7_rowsTooGood 47 = .ok (.goto (-42), 3) := by decide +kernel
theorem dX7_rowsTooGood_50 : decode cX7_rowsTooGood 50 = .ok (.iload_n 3, 1) := by decide +kernel
theorem dX7_rowsTooGood_51 : decode cX7_rowsTooGood 51 = .ok (.ireturn, 1) := by decide +kernel
theorem dX7_rowsWithMiddle_0 : decode cX7_rowsWithMiddle 0 = .ok (.iload_n 0, 1) := by decide +kernel
theorem dX7_rowsWithMiddle_1 : decode cX7_rowsWithMiddle 1 = .ok (.iload_n 1, 1) := by decide +kernel
theorem dX7_rowsWithMiddle_2 : decode cX7_rowsWithMiddle 2 = .ok (.iload_n 2, 1) := by decide +kernel
theorem dX7_rowsWithMiddle_3 : decode cX7_rowsWithMiddle 3 = .ok (.invokestatic 299, 3) := by decide +kernel
theorem dX7_rowsWithMiddle_6 : decode cX7_rowsWithMiddle 6 = .ok (.iload_n 0, 1) := by decide +kernel
theorem dX7_rowsWithMiddle_7 : decode cX7_rowsWithMiddle 7 = .ok (.iload_n 1, 1) := by decide +kernel
theorem dX7_rowsWithMiddle_8 : decode cX7_rowsWithMiddle 8 = .ok (.iconst 1, 1) := by decide +kernel
theorem dX7_rowsWithMiddle_9 : decode cX7_rowsWithMiddle 9 = .ok (.isub, 1) := by decide +kernel
theorem dX7_rowsWithMiddle_10 : decode cX7_rowsWithMiddle 10 = .ok (.iload_n 2, 1) := by decide +kernel
theorem dX7_rowsWithMiddle_11 : decode cX7_rowsWithMiddle 11 = .ok (.invokestatic 299, 3) := by decide +kernel
theorem dX7_rowsWithMiddle_14 : decode cX7_rowsWithMiddle 14 = .ok (.isub, 1) := by decide +kernel
theorem dX7_rowsWithMiddle_15 : decode cX7_rowsWithMiddle 15 = .ok (.ireturn, 1) := by decide +kernel
theorem dX7_rowsMiddleUpTo_0 : decode cX7_rowsMiddleUpTo 0 = .ok (.iload_n 0, 1) := by decide +kernel
theorem dX7_rowsMiddleUpTo_1 : decode cX7_rowsMiddleUpTo 1 = .ok (.iconst 1, 1) := by decide +kernel
theorem dX7_rowsMiddleUpTo_2 : decode cX7_rowsMiddleUpTo 2 = .ok (.iadd, 1) := by decide +kernel
theorem dX7_rowsMiddleUpTo_3 : decode cX7_rowsMiddleUpTo 3 = .ok (.iconst 2, 1) := by decide +kernel
theorem dX7_rowsMiddleUpTo_4 : decode cX7_rowsMiddleUpTo 4 = .ok (.idiv, 1) := by decide +kernel
theorem dX7_rowsMiddleUpTo_5 : decode cX7_rowsMiddleUpTo 5 = .ok (.istore_n 3, 1) := by decide +kernel
theorem dX7_rowsMiddleUpTo_6 : decode cX7_rowsMiddleUpTo 6 = .ok (.iconst 1, 1) := by decide +kernel
theorem dX7_rowsMiddleUpTo_7 : decode cX7_rowsMiddleUpTo 7 = .ok (.istore 4, 2) := by decide +kernel
theorem dX7_rowsMiddleUpTo_9 : decode cX7_rowsMiddleUpTo 9 = .ok (.iconst 0, 1) := by decide +kernel
theorem dX7_rowsMiddleUpTo_10 : decode cX7_rowsMiddleUpTo 10 = .ok (.istore 5, 2) := by decide +kernel
theorem dX7_rowsMiddleUpTo_12 : decode cX7_rowsMiddleUpTo 12 = .ok (.iconst 0, 1) := by decide +kernel
theorem dX7_rowsMiddleUpTo_13 : decode cX7_rowsMiddleUpTo 13 = .ok (.istore 6, 2) := by decide +kernel
theorem dX7_rowsMiddleUpTo_15 : decode cX7_rowsMiddleUpTo 15 = .ok (.iload 6, 2) := by decide +kernel
theorem dX7_rowsMiddleUpTo_17 : decode cX7_rowsMiddleUpTo 17 = .ok (.iload_n 0, 1) := by decide +kernel
theorem dX7_rowsMiddleUpTo_18 : decode cX7_rowsMiddleUpTo 18 = .ok (.if_icmp .gt 56, 3) := by decide +kernel
theorem dX7_rowsMiddleUpTo_21 : decode cX7_rowsMiddleUpTo 21 = .ok (.iload 6, 2) := by decide +kernel
theorem dX7_rowsMiddleUpTo_23 : decode cX7_rowsMiddleUpTo 23 = .ok (.iload_n 3, 1) := by decide +kernel
theorem dX7_rowsMiddleUpTo_24 : decode cX7_rowsMiddleUpTo 24 = .ok (.if_icmp .lt 30, 3) := by decide +kernel
theorem dX7_rowsMiddleUpTo_27 : decode cX7_rowsMiddleUpTo 27 = .ok (.iload 5, 2) := by decide +kernel
theorem dX7_rowsMiddleUpTo_29 : decode cX7_rowsMiddleUpTo 29 = .ok (.iload 4, 2) := by decide +kernel
theorem dX7_rowsMiddleUpTo_31 : decode cX7_rowsMiddleUpTo 31 = .ok (.iload_n 1, 1) := by decide +kernel
theorem dX7_rowsMiddleUpTo_32 : decode cX7_rowsMiddleUpTo 32 = .ok (.iconst 1, 1) := by decide +kernel
theorem dX7_rowsMiddleUpTo_33 : decode cX7_rowsMiddleUpTo 33 = .ok (.iadd, 1) := by decide +kernel
theorem dX7_rowsMiddleUpTo_34 : decode cX7_rowsMiddleUpTo 34 = .ok (.iload 6, 2) := by decide +kernel
theorem dX7_rowsMiddleUpTo_36 : decode cX7_rowsMiddleUpTo 36 = .ok (.invokestatic 217, 3) := by decide +kernel
theorem dX7_rowsMiddleUpTo_39 : decode cX7_rowsMiddleUpTo 39 = .ok (.imul, 1) := by decide +kernel
theorem dX7_rowsMiddleUpTo_40 : decode cX7_rowsMiddleUpTo 40 = .ok (.iload_n 2, 1) := by decide +kernel
theorem dX7_rowsMiddleUpTo_41 : decode cX7_rowsMiddleUpTo 41 = .ok (.iload_n 1, 1) := by decide +kernel
theorem dX7_rowsMiddleUpTo_42 : decode cX7_rowsMiddleUpTo 42 = .ok (.isub, 1) := by decide +kernel
theorem dX7_rowsMiddleUpTo_43 : decode cX7_rowsMiddleUpTo 43 = .ok (.iload_n 0, 1) := by decide +kernel
theorem dX7_rowsMiddleUpTo_44 : decode cX7_rowsMiddleUpTo 44 = .ok (.iload 6, 2) := by decide +kernel
theorem dX7_rowsMiddleUpTo_46 : decode cX7_rowsMiddleUpTo 46 = .ok (.isub, 1) := by decide +kernel
theorem dX7_rowsMiddleUpTo_47 : decode cX7_rowsMiddleUpTo 47 = .ok (.invokestatic 217, 3) := by decide +kernel
theorem dX7_rowsMiddleUpTo_50 : decode cX7_rowsMiddleUpTo 50 = .ok (.imul, 1) := by decide +kernel
theorem dX7_rowsMiddleUpTo_51 : decode cX7_rowsMiddleUpTo 51 = .ok (.iadd, 1) := by decide +kernel
theorem dX7_rowsMiddleUpTo_52 : decode cX7_rowsMiddleUpTo 52 = .ok (.istore 5, 2) := by decide +kernel
theorem dX7_rowsMiddleUpTo_54 : decode cX7_rowsMiddleUpTo 54 = .ok (.iload 4, 2) := by decide +kernel
theorem dX7_rowsMiddleUpTo_56 : decode cX7_rowsMiddleUpTo 56 = .ok (.iload_n 0, 1) := by decide +kernel
theorem dX7_rowsMiddleUpTo_57 : decode cX7_rowsMiddleUpTo 57 = .ok (.iload 6, 2) := by decide +kernel
theorem dX7_rowsMiddleUpTo_59 : decode cX7_rowsMiddleUpTo 59 = .ok (.isub, 1) := by decide +kernel
theorem dX7_rowsMiddleUpTo_60 : decode cX7_rowsMiddleUpTo 60 = .ok (.imul, 1) := by decide +kernel
theorem dX7_rowsMiddleUpTo_61 : decode cX7_rowsMiddleUpTo 61 = .ok (.iload 6, 2) := by decide +kernel
theorem dX7_rowsMiddleUpTo_63 : decode cX7_rowsMiddleUpTo 63 = .ok (.iconst 1, 1) := by decide +kernel
theorem dX7_rowsMiddleUpTo_64 : decode cX7_rowsMiddleUpTo 64 = .ok (.iadd, 1) := by decide +kernel
theorem dX7_rowsMiddleUpTo_65 : decode cX7_rowsMiddleUpTo 65 = .ok (.idiv, 1) := by decide +kernel
theorem dX7_rowsMiddleUpTo_66 : decode cX7_rowsMiddleUpTo 66 = .ok (.istore 4, 2) := by decide +kernel
theorem dX7_rowsMiddleUpTo_68 : decode cX7_rowsMiddleUpTo 68 = .ok (.iinc 6 1, 3) := by decide +kernel
theorem dX7_rowsMiddleUpTo_71 : decode cX7_rowsMiddleUpTo 71 = .ok (.goto (-56), 3) := by decide +kernel
theorem dX7_rowsMiddleUpTo_74 : decode cX7_rowsMiddleUpTo 74 = .ok (.iload 5, 2) := by decide +kernel
theorem dX7_rowsMiddleUpTo_76 : decode cX7_rowsMiddleUpTo 76 = .ok (.ireturn, 1) := by decide +kernel
theorem dX7_power_0 : decode cX7_power 0 = .ok (.iconst 1, 1) := by decide +kernel
theorem dX7_power_1 : decode cX7_power 1 = .ok (.istore_n 2, 1) := by decide +kernel
theorem dX7_power_2 : decode cX7_power 2 = .ok (.iconst 0, 1) := by decide +kernel
theorem dX7_power_3 : decode cX7_power 3 = .ok (.istore_n 3, 1) := by decide +kernel
theorem dX7_power_4 : decode cX7_power 4 = .ok (.iload_n 3, 1) := by decide +kernel
theorem dX7_power_5 : decode cX7_power 5 = .ok (.iload_n 1, 1) := by decide +kernel
theorem dX7_power_6 : decode cX7_power 6 = .ok (.if_icmp .ge 13, 3) := by decide +kernel
theorem dX7_power_9 : decode cX7_power 9 = .ok (.iload_n 2, 1) := by decide +kernel
theorem dX7_power_10 : decode cX7_power 10 = .ok (.iload_n 0, 1) := by decide +kernel
theorem dX7_power_11 : decode cX7_power 11 = .ok (.imul, 1) := by decide +kernel
theorem dX7_power_12 : decode cX7_power 12 = .ok (.istore_n 2, 1) := by decide +kernel
theorem dX7_power_13 : decode cX7_power 13 = .ok (.iinc 3 1, 3) := by decide +kernel
theorem dX7_power_16 : decode cX7_power 16 = .ok (.goto (-12), 3) := by decide +kernel
theorem dX7_power_19 : decode cX7_power 19 = .ok (.iload_n 2, 1) := by decide +kernel
theorem dX7_power_20 : decode cX7_power 20 = .ok (.ireturn, 1) := by decide +kernel
theorem dX7_readAs_0 : decode cX7_readAs 0 = .ok (.aload_n 0, 1) := by decide +kernel
theorem dX7_readAs_1 : decode cX7_readAs 1 = .ok (.dup, 1) := by decide +kernel
theorem dX7_readAs_2 : decode cX7_readAs 2 = .ok (.getfield 273, 3) := by decide +kernel
theorem dX7_readAs_5 : decode cX7_readAs 5 = .ok (.getstatic 302, 3) := by decide +kernel
theorem dX7_readAs_8 : decode cX7_readAs 8 = .ok (.iload_n 1, 1) := by decide +kernel
theorem dX7_readAs_9 : decode cX7_readAs 9 = .ok (.iaload, 1) := by decide +kernel
theorem dX7_readAs_10 : decode cX7_readAs 10 = .ok (.i2l, 1) := by decide +kernel
theorem dX7_readAs_11 : decode cX7_readAs 11 = .ok (.ladd, 1) := by decide +kernel
theorem dX7_readAs_12 : decode cX7_readAs 12 = .ok (.putfield 273, 3) := by decide +kernel
theorem dX7_readAs_15 : decode cX7_readAs 15 = .ok (.iload_n 1, 1) := by decide +kernel
theorem dX7_readAs_16 : decode cX7_readAs 16 = .ok (.ifCond .ne 8, 3) := by decide +kernel
theorem dX7_readAs_19 : decode cX7_readAs 19 = .ok (.aload_n 2, 1) := by decide +kernel
theorem dX7_readAs_20 : decode cX7_readAs 20 = .ok (.getfield 112, 3) := by decide +kernel
theorem dX7_readAs_23 : decode cX7_readAs 23 = .ok (.ireturn, 1) := by decide +kernel
theorem dX7_readAs_24 : decode cX7_readAs 24 = .ok (.aload_n 0, 1) := by decide +kernel
theorem dX7_readAs_25 : decode cX7_readAs 25 = .ok (.getstatic 305, 3) := by decide +kernel
theorem dX7_readAs_28 : decode cX7_readAs 28 = .ok (.iload_n 1, 1) := by decide +kernel
theorem dX7_readAs_29 : decode cX7_readAs 29 = .ok (.iaload, 1) := by decide +kernel
theorem dX7_readAs_30 : decode cX7_readAs 30 = .ok (.aload_n 2, 1) := by decide +kernel
theorem dX7_readAs_31 : decode cX7_readAs 31 = .ok (.invokevirtual 263, 3) := by decide +kernel
theorem dX7_readAs_34 : decode cX7_readAs 34 = .ok (.istore_n 3, 1) := by decide +kernel
theorem dX7_readAs_35 : decode cX7_readAs 35 = .ok (.iload_n 1, 1) := by decide +kernel
theorem dX7_readAs_36 : decode cX7_readAs 36 = .ok (.tableswitch 83 1 5 #[36, 45, 54, 65, 74], 36) := by decide +kernel
theorem dX7_readAs_72 : decode cX7_readAs 72 = .ok (.iload_n 3, 1) := by decide +kernel
theorem dX7_readAs_73 : decode cX7_readAs 73 = .ok (.aload_n 0, 1) := by decide +kernel
theorem dX7_readAs_74 : decode cX7_readAs 74 = .ok (.getfield 20, 3) := by decide +kernel
theorem dX7_readAs_77 : decode cX7_readAs 77 = .ok (.iconst 0, 1) := by decide +kernel
theorem dX7_readAs_78 : decode cX7_readAs 78 = .ok (.iaload, 1) := by decide +kernel
theorem dX7_readAs_79 : decode cX7_readAs 79 = .ok (.iadd, 1) := by decide +kernel
theorem dX7_readAs_80 : decode cX7_readAs 80 = .ok (.ireturn, 1) := by decide +kernel
theorem dX7_readAs_81 : decode cX7_readAs 81 = .ok (.iload_n 3, 1) := by decide +kernel
theorem dX7_readAs_82 : decode cX7_readAs 82 = .ok (.aload_n 0, 1) := by decide +kernel
theorem dX7_readAs_83 : decode cX7_readAs 83 = .ok (.getfield 20, 3) := by decide +kernel
theorem dX7_readAs_86 : decode cX7_readAs 86 = .ok (.iconst 1, 1) := by decide +kernel
theorem dX7_readAs_87 : decode cX7_readAs 87 = .ok (.iaload, 1) := by decide +kernel
theorem dX7_readAs_88 : decode cX7_readAs 88 = .ok (.iadd, 1) := by decide +kernel
theorem dX7_readAs_89 : decode cX7_readAs 89 = .ok (.ireturn, 1) := by decide +kernel
theorem dX7_readAs_90 : decode cX7_readAs 90 = .ok (.iconst 2, 1) := by decide +kernel
theorem dX7_readAs_91 : decode cX7_readAs 91 = .ok (.iload_n 3, 1) := by decide +kernel
theorem dX7_readAs_92 : decode cX7_readAs 92 = .ok (.imul, 1) := by decide +kernel
theorem dX7_readAs_93 : decode cX7_readAs 93 = .ok (.aload_n 0, 1) := by decide +kernel
theorem dX7_readAs_94 : decode cX7_readAs 94 = .ok (.getfield 20, 3) := by decide +kernel
theorem dX7_readAs_97 : decode cX7_readAs 97 = .ok (.iconst 2, 1) := by decide +kernel
theorem dX7_readAs_98 : decode cX7_readAs 98 = .ok (.iaload, 1) := by decide +kernel
theorem dX7_readAs_99 : decode cX7_readAs 99 = .ok (.isub, 1) := by decide +kernel
theorem dX7_readAs_100 : decode cX7_readAs 100 = .ok (.ireturn, 1) := by decide +kernel
theorem dX7_readAs_101 : decode cX7_readAs 101 = .ok (.iload_n 3, 1) := by decide +kernel
theorem dX7_readAs_102 : decode cX7_readAs 102 = .ok (.aload_n 2, 1) := by decide +kernel
theorem dX7_readAs_103 : decode cX7_readAs 103 = .ok (.getfield 281, 3) := by decide +kernel
theorem dX7_readAs_106 : decode cX7_readAs 106 = .ok (.iconst 0, 1) := by decide +kernel
theorem dX7_readAs_107 : decode cX7_readAs 107 = .ok (.iaload, 1) := by decide +kernel
theorem dX7_readAs_108 : decode cX7_readAs 108 = .ok (.iadd, 1) := by decide +kernel
theorem dX7_readAs_109 : decode cX7_readAs 109 = .ok (.ireturn, 1) := by decide +kernel
theorem dX7_readAs_110 : decode cX7_readAs 110 = .ok (.iload_n 3, 1) := by decide +kernel
theorem dX7_readAs_111 : decode cX7_readAs 111 = .ok (.iconst 5, 1) := by decide +kernel
theorem dX7_readAs_112 : decode cX7_readAs 112 = .ok (.aload_n 2, 1) := by decide +kernel
theorem dX7_readAs_113 : decode cX7_readAs 113 = .ok (.getfield 118, 3) := by decide +kernel
theorem dX7_readAs_116 : decode cX7_readAs 116 = .ok (.imul, 1) := by decide +kernel
theorem dX7_readAs_117 : decode cX7_readAs 117 = .ok (.iadd, 1) := by decide +kernel
theorem dX7_readAs_118 : decode cX7_readAs 118 = .ok (.ireturn, 1) := by decide +kernel
theorem dX7_readAs_119 : decode cX7_readAs 119 = .ok (.iload_n 3, 1) := by decide +kernel
theorem dX7_readAs_120 : decode cX7_readAs 120 = .ok (.iconst 2, 1) := by decide +kernel
theorem dX7_readAs_121 : decode cX7_readAs 121 = .ok (.idiv, 1) := by decide +kernel
theorem dX7_readAs_122 : decode cX7_readAs 122 = .ok (.ireturn, 1) := by decide +kernel
theorem dJ6_bitCount_0f7a4_0 : decode cJ6_bitCount_0f7a4 0 = .ok (.iload_n 0, 1) := by decide +kernel
theorem dJ6_bitCount_0f7a4_1 : decode cJ6_bitCount_0f7a4 1 = .ok (.iload_n 0, 1) := by decide +kernel
theorem dJ6_bitCount_0f7a4_2 : decode cJ6_bitCount_0f7a4 2 = .ok (.iconst 1, 1) := by decide +kernel
theorem dJ6_bitCount_0f7a4_3 : decode cJ6_bitCount_0f7a4 3 = .ok (.iushr, 1) := by decide +kernel
theorem dJ6_bitCount_0f7a4_4 : decode cJ6_bitCount_0f7a4 4 = .ok (.ldc_w 265, 3) := by decide +kernel
theorem dJ6_bitCount_0f7a4_7 : decode cJ6_bitCount_0f7a4 7 = .ok (.iand, 1) := by decide +kernel
theorem dJ6_bitCount_0f7a4_8 : decode cJ6_bitCount_0f7a4 8 = .ok (.isub, 1) := by decide +kernel
theorem dJ6_bitCount_0f7a4_9 : decode cJ6_bitCount_0f7a4 9 = .ok (.istore_n 0, 1) := by decide +kernel
theorem dJ6_bitCount_0f7a4_10 : decode cJ6_bitCount_0f7a4 10 = .ok (.iload_n 0, 1) := by decide +kernel
theorem dJ6_bitCount_0f7a4_11 : decode cJ6_bitCount_0f7a4 11 = .ok (.ldc_w 266, 3) := by decide +kernel
theorem dJ6_bitCount_0f7a4_14 : decode cJ6_bitCount_0f7a4 14 = .ok (.iand, 1) := by decide +kernel
theorem dJ6_bitCount_0f7a4_15 : decode cJ6_bitCount_0f7a4 15 = .ok (.iload_n 0, 1) := by decide +kernel
theorem dJ6_bitCount_0f7a4_16 : decode cJ6_bitCount_0f7a4 16 = .ok (.iconst 2, 1) := by decide +kernel
theorem dJ6_bitCount_0f7a4_17 : decode cJ6_bitCount_0f7a4 17 = .ok (.iushr, 1) := by decide +kernel
theorem dJ6_bitCount_0f7a4_18 : decode cJ6_bitCount_0f7a4 18 = .ok (.ldc_w 266, 3) := by decide +kernel
theorem dJ6_bitCount_0f7a4_21 : decode cJ6_bitCount_0f7a4 21 = .ok (.iand, 1) := by decide +kernel
theorem dJ6_bitCount_0f7a4_22 : decode cJ6_bitCount_0f7a4 22 = .ok (.iadd, 1) := by decide +kernel
theorem dJ6_bitCount_0f7a4_23 : decode cJ6_bitCount_0f7a4 23 = .ok (.istore_n 0, 1) := by decide +kernel
theorem dJ6_bitCount_0f7a4_24 : decode cJ6_bitCount_0f7a4 24 = .ok (.iload_n 0, 1) := by decide +kernel
theorem dJ6_bitCount_0f7a4_25 : decode cJ6_bitCount_0f7a4 25 = .ok (.iload_n 0, 1) := by decide +kernel
theorem dJ6_bitCount_0f7a4_26 : decode cJ6_bitCount_0f7a4 26 = .ok (.iconst 4, 1) := by decide +kernel
theorem dJ6_bitCount_0f7a4_27 : decode cJ6_bitCount_0f7a4 27 = .ok (.iushr, 1) := by decide +kernel
theorem dJ6_bitCount_0f7a4_28 : decode cJ6_bitCount_0f7a4 28 = .ok (.iadd, 1) := by decide +kernel
theorem dJ6_bitCount_0f7a4_29 : decode cJ6_bitCount_0f7a4 29 = .ok (.ldc_w 267, 3) := by decide +kernel
theorem dJ6_bitCount_0f7a4_32 : decode cJ6_bitCount_0f7a4 32 = .ok (.iand, 1) := by decide +kernel
theorem dJ6_bitCount_0f7a4_33 : decode cJ6_bitCount_0f7a4 33 = .ok (.istore_n 0, 1) := by decide +kernel
theorem dJ6_bitCount_0f7a4_34 : decode cJ6_bitCount_0f7a4 34 = .ok (.iload_n 0, 1) := by decide +kernel
theorem dJ6_bitCount_0f7a4_35 : decode cJ6_bitCount_0f7a4 35 = .ok (.iload_n 0, 1) := by decide +kernel
theorem dJ6_bitCount_0f7a4_36 : decode cJ6_bitCount_0f7a4 36 = .ok (.bipush 8, 2) := by decide +kernel
theorem dJ6_bitCount_0f7a4_38 : decode cJ6_bitCount_0f7a4 38 = .ok (.iushr, 1) := by decide +kernel
theorem dJ6_bitCount_0f7a4_39 : decode cJ6_bitCount_0f7a4 39 = .ok (.iadd, 1) := by decide +kernel
theorem dJ6_bitCount_0f7a4_40 : decode cJ6_bitCount_0f7a4 40 = .ok (.istore_n 0, 1) := by decide +kernel
theorem dJ6_bitCount_0f7a4_41 : decode cJ6_bitCount_0f7a4 41 = .ok (.iload_n 0, 1) := by decide +kernel
theorem dJ6_bitCount_0f7a4_42 : decode cJ6_bitCount_0f7a4 42 = .ok (.iload_n 0, 1) := by decide +kernel
theorem dJ6_bitCount_0f7a4_43 : decode cJ6_bitCount_0f7a4 43 = .ok (.bipush 16, 2) := by decide +kernel
theorem dJ6_bitCount_0f7a4_45 : decode cJ6_bitCount_0f7a4 45 = .ok (.iushr, 1) := by decide +kernel
theorem dJ6_bitCount_0f7a4_46 : decode cJ6_bitCount_0f7a4 46 = .ok (.iadd, 1) := by decide +kernel
theorem dJ6_bitCount_0f7a4_47 : decode cJ6_bitCount_0f7a4 47 = .ok (.istore_n 0, 1) := by decide +kernel
theorem dJ6_bitCount_0f7a4_48 : decode cJ6_bitCount_0f7a4 48 = .ok (.iload_n 0, 1) := by decide +kernel
theorem dJ6_bitCount_0f7a4_49 : decode cJ6_bitCount_0f7a4 49 = .ok (.bipush 63, 2) := by decide +kernel
theorem dJ6_bitCount_0f7a4_51 : decode cJ6_bitCount_0f7a4 51 = .ok (.iand, 1) := by decide +kernel
theorem dJ6_bitCount_0f7a4_52 : decode cJ6_bitCount_0f7a4 52 = .ok (.ireturn, 1) := by decide +kernel
theorem dJ9_floorDiv_7cf53_0 : decode cJ9_floorDiv_7cf53 0 = .ok (.iload_n 0, 1) := by decide +kernel
theorem dJ9_floorDiv_7cf53_1 : decode cJ9_floorDiv_7cf53 1 = .ok (.iload_n 1, 1) := by decide +kernel
theorem dJ9_floorDiv_7cf53_2 : decode cJ9_floorDiv_7cf53 2 = .ok (.idiv, 1) := by decide +kernel
theorem dJ9_floorDiv_7cf53_3 : decode cJ9_floorDiv_7cf53 3 = .ok (.istore_n 2, 1) := by decide +kernel
theorem dJ9_floorDiv_7cf53_4 : decode cJ9_floorDiv_7cf53 4 = .ok (.iload_n 0, 1) := by decide +kernel
theorem dJ9_floorDiv_7cf53_5 : decode cJ9_floorDiv_7cf53 5 = .ok (.iload_n 1, 1) := by decide +kernel
theorem dJ9_floorDiv_7cf53_6 : decode cJ9_floorDiv_7cf53 6 = .ok (.ixor, 1) := by decide +kernel
theorem dJ9_floorDiv_7cf53_7 : decode cJ9_floorDiv_7cf53 7 = .ok (.ifCond .ge 14, 3) := by decide +kernel
theorem dJ9_floorDiv_7cf53_10 : decode cJ9_floorDiv_7cf53 10 = .ok (.iload_n 2, 1) := by decide +kernel
theorem dJ9_floorDiv_7cf53_11 : decode cJ9_floorDiv_7cf53 11 = .ok (.iload_n 1, 1) := by decide +kernel
theorem dJ9_floorDiv_7cf53_12 : decode cJ9_floorDiv_7cf53 12 = .ok (.imul, 1) := by decide +kernel
theorem dJ9_floorDiv_7cf53_13 : decode cJ9_floorDiv_7cf53 13 = .ok (.iload_n 0, 1) := by decide +kernel
theorem dJ9_floorDiv_7cf53_14 : decode cJ9_floorDiv_7cf53 14 = .ok (.if_icmp .eq 7, 3) := by decide +kernel
theorem dJ9_floorDiv_7cf53_17 : decode cJ9_floorDiv_7cf53 17 = .ok (.iload_n 2, 1) := by decide +kernel
theorem dJ9_floorDiv_7cf53_18 : decode cJ9_floorDiv_7cf53 18 = .ok (.iconst 1, 1) := by decide +kernel
theorem dJ9_floorDiv_7cf53_19 : decode cJ9_floorDiv_7cf53 19 = .ok (.isub, 1) := by decide +kernel
theorem dJ9_floorDiv_7cf53_20 : decode cJ9_floorDiv_7cf53 20 = .ok (.ireturn, 1) := by decide +kernel
theorem dJ9_floorDiv_7cf53_21 : decode cJ9_floorDiv_7cf53 21 = .ok (.iload_n 2, 1) := by decide +kernel
theorem dJ9_floorDiv_7cf53_22 : decode cJ9_floorDiv_7cf53 22 = .ok (.ireturn, 1) := by decide +kernel
theorem dJ9_abs_067f4_0 : decode cJ9_abs_067f4 0 = .ok (.lload_n 0, 1) := by decide +kernel
theorem dJ9_abs_067f4_1 : decode cJ9_abs_067f4 1 = .ok (.lconst 0, 1) := by decide +kernel
theorem dJ9_abs_067f4_2 : decode cJ9_abs_067f4 2 = .ok (.lcmp, 1) := by decide +kernel
theorem dJ9_abs_067f4_3 : decode cJ9_abs_067f4 3 = .ok (.ifCond .ge 8, 3) := by decide +kernel
theorem dJ9_abs_067f4_6 : decode cJ9_abs_067f4 6 = .ok (.lload_n 0, 1) := by decide +kernel
theorem dJ9_abs_067f4_7 : decode cJ9_abs_067f4 7 = .ok (.lneg, 1) := by decide +kernel
theorem dJ9_abs_067f4_8 : decode cJ9_abs_067f4 8 = .ok (.goto 4, 3) := by decide +kernel
theorem dJ9_abs_067f4_11 : decode cJ9_abs_067f4 11 = .ok (.lload_n 0, 1) := by decide +kernel
theorem dJ9_abs_067f4_12 : decode cJ9_abs_067f4 12 = .ok (.lreturn, 1) := by decide +kernel
theorem dJ9_max_7cf53_0 : decode cJ9_max_7cf53 0 = .ok (.iload_n 0, 1) := by decide +kernel
theorem dJ9_max_7cf53_1 : decode cJ9_max_7cf53 1 = .ok (.iload_n 1, 1) := by decide +kernel
theorem dJ9_max_7cf53_2 : decode cJ9_max_7cf53 2 = .ok (.if_icmp .lt 7, 3) := by decide +kernel
theorem dJ9_max_7cf53_5 : decode cJ9_max_7cf53 5 = .ok (.iload_n 0, 1) := by decide +kernel
theorem dJ9_max_7cf53_6 : decode cJ9_max_7cf53 6 = .ok (.goto 4, 3) := by decide +kernel
theorem dJ9_max_7cf53_9 : decode cJ9_max_7cf53 9 = .ok (.iload_n 1, 1) := by decide +kernel
theorem dJ9_max_7cf53_10 : decode cJ9_max_7cf53 10 = .ok (.ireturn, 1) := by decide +kernel
theorem dJ9_min_7cf53_0 : decode cJ9_min_7cf53 0 = .ok (.iload_n 0, 1) := by decide +kernel
theorem dJ9_min_7cf53_1 : decode cJ9_min_7cf53 1 = .ok (.iload_n 1, 1) := by decide +kernel
theorem dJ9_min_7cf53_2 : decode cJ9_min_7cf53 2 = .ok (.if_icmp .gt 7, 3) := by decide +kernel
theorem dJ9_min_7cf53_5 : decode cJ9_min_7cf53 5 = .ok (.iload_n 0, 1) := by decide +kernel
theorem dJ9_min_7cf53_6 : decode cJ9_min_7cf53 6 = .ok (.goto 4, 3) := by decide +kernel
theorem dJ9_min_7cf53_9 : decode cJ9_min_7cf53 9 = .ok (.iload_n 1, 1) := by decide +kernel
theorem dJ9_min_7cf53_10 : decode cJ9_min_7cf53 10 = .ok (.ireturn, 1) := by decide +kernel
