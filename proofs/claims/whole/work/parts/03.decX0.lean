theorem dX0_init_0 : decode cX0_init 0 = .ok (.aload_n 0, 1) := by decide +kernel
theorem dX0_init_1 : decode cX0_init 1 = .ok (.invokespecial 3, 3) := by decide +kernel
theorem dX0_init_4 : decode cX0_init 4 = .ok (.aload_n 0, 1) := by decide +kernel
theorem dX0_init_5 : decode cX0_init 5 = .ok (.bipush 8, 2) := by decide +kernel
theorem dX0_init_7 : decode cX0_init 7 = .ok (.newarray .int, 2) := by decide +kernel
theorem dX0_init_9 : decode cX0_init 9 = .ok (.putfield 9, 3) := by decide +kernel
theorem dX0_init_12 : decode cX0_init 12 = .ok (.aload_n 0, 1) := by decide +kernel
theorem dX0_init_13 : decode cX0_init 13 = .ok (.bipush 8, 2) := by decide +kernel
theorem dX0_init_15 : decode cX0_init 15 = .ok (.newarray .int, 2) := by decide +kernel
theorem dX0_init_17 : decode cX0_init 17 = .ok (.putfield 15, 3) := by decide +kernel
theorem dX0_init_20 : decode cX0_init 20 = .ok (.aload_n 0, 1) := by decide +kernel
theorem dX0_init_21 : decode cX0_init 21 = .ok (.iconst 3, 1) := by decide +kernel
theorem dX0_init_22 : decode cX0_init 22 = .ok (.newarray .int, 2) := by decide +kernel
theorem dX0_init_24 : decode cX0_init 24 = .ok (.putfield 18, 3) := by decide +kernel
theorem dX0_init_27 : decode cX0_init 27 = .ok (.return_, 1) := by decide +kernel
theorem dX0_begin_0 : decode cX0_begin 0 = .ok (.aload_n 0, 1) := by decide +kernel
theorem dX0_begin_1 : decode cX0_begin 1 = .ok (.iconst 0, 1) := by decide +kernel
theorem dX0_begin_2 : decode cX0_begin 2 = .ok (.putfield 21, 3) := by decide +kernel
theorem dX0_begin_5 : decode cX0_begin 5 = .ok (.aload_n 0, 1) := by decide +kernel
theorem dX0_begin_6 : decode cX0_begin 6 = .ok (.iload_n 1, 1) := by decide +kernel
theorem dX0_begin_7 : decode cX0_begin 7 = .ok (.putfield 25, 3) := by decide +kernel
theorem dX0_begin_10 : decode cX0_begin 10 = .ok (.return_, 1) := by decide +kernel
theorem dX0_add_0 : decode cX0_add 0 = .ok (.aload_n 0, 1) := by decide +kernel
theorem dX0_add_1 : decode cX0_add 1 = .ok (.getfield 21, 3) := by decide +kernel
theorem dX0_add_4 : decode cX0_add 4 = .ok (.bipush 8, 2) := by decide +kernel
theorem dX0_add_6 : decode cX0_add 6 = .ok (.if_icmp .ge 35, 3) := by decide +kernel
theorem dX0_add_9 : decode cX0_add 9 = .ok (.aload_n 0, 1) := by decide +kernel
theorem dX0_add_10 : decode cX0_add 10 = .ok (.getfield 9, 3) := by decide +kernel
theorem dX0_add_13 : decode cX0_add 13 = .ok (.aload_n 0, 1) := by decide +kernel
theorem dX0_add_14 : decode cX0_add 14 = .ok (.getfield 21, 3) := by decide +kernel
theorem dX0_add_17 : decode cX0_add 17 = .ok (.iload_n 1, 1) := by decide +kernel
theorem dX0_add_18 : decode cX0_add 18 = .ok (.iastore, 1) := by decide +kernel
theorem dX0_add_19 : decode cX0_add 19 = .ok (.aload_n 0, 1) := by decide +kernel
theorem dX0_add_20 : decode cX0_add 20 = .ok (.getfield 15, 3) := by decide +kernel
theorem dX0_add_23 : decode cX0_add 23 = .ok (.aload_n 0, 1) := by decide +kernel
theorem dX0_add_24 : decode cX0_add 24 = .ok (.getfield 21, 3) := by decide +kernel
theorem dX0_add_27 : decode cX0_add 27 = .ok (.iload_n 1, 1) := by decide +kernel
theorem dX0_add_28 : decode cX0_add 28 = .ok (.iload_n 2, 1) := by decide +kernel
theorem dX0_add_29 : decode cX0_add 29 = .ok (.isub, 1) := by decide +kernel
theorem dX0_add_30 : decode cX0_add 30 = .ok (.iastore, 1) := by decide +kernel
theorem dX0_add_31 : decode cX0_add 31 = .ok (.aload_n 0, 1) := by decide +kernel
theorem dX0_add_32 : decode cX0_add 32 = .ok (.dup, 1) := by decide +kernel
theorem dX0_add_33 : decode cX0_add 33 = .ok (.getfield 21, 3) := by decide +kernel
theorem dX0_add_36 : decode cX0_add 36 = .ok (.iconst 1, 1) := by decide +kernel
theorem dX0_add_37 : decode cX0_add 37 = .ok (.iadd, 1) := by decide +kernel
theorem dX0_add_38 : decode cX0_add 38 = .ok (.putfield 21, 3) := by decide +kernel
theorem dX0_add_41 : decode cX0_add 41 = .ok (.return_, 1) := by decide +kernel
theorem dX0_allRows_0 : decode cX0_allRows 0 = .ok (.lconst 1, 1) := by decide +kernel
theorem dX0_allRows_1 : decode cX0_allRows 1 = .ok (.lstore_n 1, 1) := by decide +kernel
theorem dX0_allRows_2 : decode cX0_allRows 2 = .ok (.iconst 0, 1) := by decide +kernel
theorem dX0_allRows_3 : decode cX0_allRows 3 = .ok (.istore_n 3, 1) := by decide +kernel
theorem dX0_allRows_4 : decode cX0_allRows 4 = .ok (.iload_n 3, 1) := by decide +kernel
theorem dX0_allRows_5 : decode cX0_allRows 5 = .ok (.aload_n 0, 1) := by decide +kernel
theorem dX0_allRows_6 : decode cX0_allRows 6 = .ok (.getfield 21, 3) := by decide +kernel
theorem dX0_allRows_9 : decode cX0_allRows 9 = .ok (.if_icmp .ge 21, 3) := by decide +kernel
theorem dX0_allRows_12 : decode cX0_allRows 12 = .ok (.lload_n 1, 1) := by decide +kernel
theorem dX0_allRows_13 : decode cX0_allRows 13 = .ok (.iconst 2, 1) := by decide +kernel
theorem dX0_allRows_14 : decode cX0_allRows 14 = .ok (.aload_n 0, 1) := by decide +kernel
theorem dX0_allRows_15 : decode cX0_allRows 15 = .ok (.getfield 25, 3) := by decide +kernel
theorem dX0_allRows_18 : decode cX0_allRows 18 = .ok (.imul, 1) := by decide +kernel
theorem dX0_allRows_19 : decode cX0_allRows 19 = .ok (.iconst 1, 1) := by decide +kernel
theorem dX0_allRows_20 : decode cX0_allRows 20 = .ok (.iadd, 1) := by decide +kernel
theorem dX0_allRows_21 : decode cX0_allRows 21 = .ok (.i2l, 1) := by decide +kernel
theorem dX0_allRows_22 : decode cX0_allRows 22 = .ok (.lmul, 1) := by decide +kernel
theorem dX0_allRows_23 : decode cX0_allRows 23 = .ok (.lstore_n 1, 1) := by decide +kernel
theorem dX0_allRows_24 : decode cX0_allRows 24 = .ok (.iinc 3 1, 3) := by decide +kernel
theorem dX0_allRows_27 : decode cX0_allRows 27 = .ok (.goto (-23), 3) := by decide +kernel
theorem dX0_allRows_30 : decode cX0_allRows 30 = .ok (.lload_n 1, 1) := by decide +kernel
theorem dX0_allRows_31 : decode cX0_allRows 31 = .ok (.lreturn, 1) := by decide +kernel
theorem dX0_rowsFirst_0 : decode cX0_rowsFirst 0 = .ok (.lconst 0, 1) := by decide +kernel
theorem dX0_rowsFirst_1 : decode cX0_rowsFirst 1 = .ok (.lstore_n 2, 1) := by decide +kernel
theorem dX0_rowsFirst_2 : decode cX0_rowsFirst 2 = .ok (.aload_n 0, 1) := by decide +kernel
theorem dX0_rowsFirst_3 : decode cX0_rowsFirst 3 = .ok (.getfield 25, 3) := by decide +kernel
theorem dX0_rowsFirst_6 : decode cX0_rowsFirst 6 = .ok (.istore 4, 2) := by decide +kernel
theorem dX0_rowsFirst_8 : decode cX0_rowsFirst 8 = .ok (.iload 4, 2) := by decide +kernel
theorem dX0_rowsFirst_10 : decode cX0_rowsFirst 10 = .ok (.aload_n 0, 1) := by decide +kernel
theorem dX0_rowsFirst_11 : decode cX0_rowsFirst 11 = .ok (.getfield 25, 3) := by decide +kernel
theorem dX0_rowsFirst_14 : decode cX0_rowsFirst 14 = .ok (.ineg, 1) := by decide +kernel
theorem dX0_rowsFirst_15 : decode cX0_rowsFirst 15 = .ok (.if_icmp .lt 39, 3) := by decide +kernel
theorem dX0_rowsFirst_18 : decode cX0_rowsFirst 18 = .ok (.aload_n 0, 1) := by decide +kernel
theorem dX0_rowsFirst_19 : decode cX0_rowsFirst 19 = .ok (.iload_n 1, 1) := by decide +kernel
theorem dX0_rowsFirst_20 : decode cX0_rowsFirst 20 = .ok (.aload_n 0, 1) := by decide +kernel
theorem dX0_rowsFirst_21 : decode cX0_rowsFirst 21 = .ok (.getfield 15, 3) := by decide +kernel
theorem dX0_rowsFirst_24 : decode cX0_rowsFirst 24 = .ok (.iload_n 1, 1) := by decide +kernel
theorem dX0_rowsFirst_25 : decode cX0_rowsFirst 25 = .ok (.iaload, 1) := by decide +kernel
theorem dX0_rowsFirst_26 : decode cX0_rowsFirst 26 = .ok (.iload 4, 2) := by decide +kernel
theorem dX0_rowsFirst_28 : decode cX0_rowsFirst 28 = .ok (.iadd, 1) := by decide +kernel
theorem dX0_rowsFirst_29 : decode cX0_rowsFirst 29 = .ok (.invokevirtual 28, 3) := by decide +kernel
theorem dX0_rowsFirst_32 : decode cX0_rowsFirst 32 = .ok (.lstore 5, 2) := by decide +kernel
theorem dX0_rowsFirst_34 : decode cX0_rowsFirst 34 = .ok (.lload 5, 2) := by decide +kernel
theorem dX0_rowsFirst_36 : decode cX0_rowsFirst 36 = .ok (.lconst 0, 1) := by decide +kernel
theorem dX0_rowsFirst_37 : decode cX0_rowsFirst 37 = .ok (.lcmp, 1) := by decide +kernel
theorem dX0_rowsFirst_38 : decode cX0_rowsFirst 38 = .ok (.ifCond .ne 5, 3) := by decide +kernel
theorem dX0_rowsFirst_41 : decode cX0_rowsFirst 41 = .ok (.lload_n 2, 1) := by decide +kernel
theorem dX0_rowsFirst_42 : decode cX0_rowsFirst 42 = .ok (.lreturn, 1) := by decide +kernel
theorem dX0_rowsFirst_43 : decode cX0_rowsFirst 43 = .ok (.lload_n 2, 1) := by decide +kernel
theorem dX0_rowsFirst_44 : decode cX0_rowsFirst 44 = .ok (.lload 5, 2) := by decide +kernel
theorem dX0_rowsFirst_46 : decode cX0_rowsFirst 46 = .ok (.ladd, 1) := by decide +kernel
theorem dX0_rowsFirst_47 : decode cX0_rowsFirst 47 = .ok (.lstore_n 2, 1) := by decide +kernel
theorem dX0_rowsFirst_48 : decode cX0_rowsFirst 48 = .ok (.iinc 4 (-1), 3) := by decide +kernel
theorem dX0_rowsFirst_51 : decode cX0_rowsFirst 51 = .ok (.goto (-43), 3) := by decide +kernel
theorem dX0_rowsFirst_54 : decode cX0_rowsFirst 54 = .ok (.lload_n 2, 1) := by decide +kernel
theorem dX0_rowsFirst_55 : decode cX0_rowsFirst 55 = .ok (.lreturn, 1) := by decide +kernel
theorem dX0_waysOfOthers_0 : decode cX0_waysOfOthers 0 = .ok (.lconst 1, 1) := by decide +kernel
theorem dX0_waysOfOthers_1 : decode cX0_waysOfOthers 1 = .ok (.lstore_n 3, 1) := by decide +kernel
theorem dX0_waysOfOthers_2 : decode cX0_waysOfOthers 2 = .ok (.iconst 0, 1) := by decide +kernel
theorem dX0_waysOfOthers_3 : decode cX0_waysOfOthers 3 = .ok (.istore 5, 2) := by decide +kernel
theorem dX0_waysOfOthers_5 : decode cX0_waysOfOthers 5 = .ok (.iload 5, 2) := by decide +kernel
theorem dX0_waysOfOthers_7 : decode cX0_waysOfOthers 7 = .ok (.aload_n 0, 1) := by decide +kernel
theorem dX0_waysOfOthers_8 : decode cX0_waysOfOthers 8 = .ok (.getfield 21, 3) := by decide +kernel
theorem dX0_waysOfOthers_11 : decode cX0_waysOfOthers 11 = .ok (.if_icmp .ge 67, 3) := by decide +kernel
theorem dX0_waysOfOthers_14 : decode cX0_waysOfOthers 14 = .ok (.lload_n 3, 1) := by decide +kernel
theorem dX0_waysOfOthers_15 : decode cX0_waysOfOthers 15 = .ok (.lconst 0, 1) := by decide +kernel
theorem dX0_waysOfOthers_16 : decode cX0_waysOfOthers 16 = .ok (.lcmp, 1) := by decide +kernel
theorem dX0_waysOfOthers_17 : decode cX0_waysOfOthers 17 = .ok (.ifCond .le 61, 3) := by decide +kernel
theorem dX0_waysOfOthers_20 : decode cX0_waysOfOthers 20 = .ok (.iload 5, 2) := by decide +kernel
theorem dX0_waysOfOthers_22 : decode cX0_waysOfOthers 22 = .ok (.iload_n 1, 1) := by decide +kernel
theorem dX0_waysOfOthers_23 : decode cX0_waysOfOthers 23 = .ok (.if_icmp .eq 49, 3) := by decide +kernel
theorem dX0_waysOfOthers_26 : decode cX0_waysOfOthers 26 = .ok (.iload 5, 2) := by decide +kernel
theorem dX0_waysOfOthers_28 : decode cX0_waysOfOthers 28 = .ok (.iload_n 1, 1) := by decide +kernel
theorem dX0_waysOfOthers_29 : decode cX0_waysOfOthers 29 = .ok (.if_icmp .le 7, 3) := by decide +kernel
theorem dX0_waysOfOthers_32 : decode cX0_waysOfOthers 32 = .ok (.iconst 1, 1) := by decide +kernel
theorem dX0_waysOfOthers_33 : decode cX0_waysOfOthers 33 = .ok (.goto 4, 3) := by decide +kernel
theorem dX0_waysOfOthers_36 : decode cX0_waysOfOthers 36 = .ok (.iconst 0, 1) := by decide +kernel
theorem dX0_waysOfOthers_37 : decode cX0_waysOfOthers 37 = .ok (.istore 6, 2) := by decide +kernel
theorem dX0_waysOfOthers_39 : decode cX0_waysOfOthers 39 = .ok (.lload_n 3, 1) := by decide +kernel
theorem dX0_waysOfOthers_40 : decode cX0_waysOfOthers 40 = .ok (.iload_n 2, 1) := by decide +kernel
theorem dX0_waysOfOthers_41 : decode cX0_waysOfOthers 41 = .ok (.aload_n 0, 1) := by decide +kernel
theorem dX0_waysOfOthers_42 : decode cX0_waysOfOthers 42 = .ok (.getfield 15, 3) := by decide +kernel
theorem dX0_waysOfOthers_45 : decode cX0_waysOfOthers 45 = .ok (.iload 5, 2) := by decide +kernel
theorem dX0_waysOfOthers_47 : decode cX0_waysOfOthers 47 = .ok (.iaload, 1) := by decide +kernel
theorem dX0_waysOfOthers_48 : decode cX0_waysOfOthers 48 = .ok (.isub, 1) := by decide +kernel
theorem dX0_waysOfOthers_49 : decode cX0_waysOfOthers 49 = .ok (.aload_n 0, 1) := by decide +kernel
theorem dX0_waysOfOthers_50 : decode cX0_waysOfOthers 50 = .ok (.getfield 25, 3) := by decide +kernel
theorem dX0_waysOfOthers_53 : decode cX0_waysOfOthers 53 = .ok (.iadd, 1) := by decide +kernel
theorem dX0_waysOfOthers_54 : decode cX0_waysOfOthers 54 = .ok (.iload 6, 2) := by decide +kernel
theorem dX0_waysOfOthers_56 : decode cX0_waysOfOthers 56 = .ok (.iadd, 1) := by decide +kernel
theorem dX0_waysOfOthers_57 : decode cX0_waysOfOthers 57 = .ok (.iconst 0, 1) := by decide +kernel
theorem dX0_waysOfOthers_58 : decode cX0_waysOfOthers 58 = .ok (.iconst 2, 1) := by decide +kernel
theorem dX0_waysOfOthers_59 : decode cX0_waysOfOthers 59 = .ok (.aload_n 0, 1) := by decide +kernel
theorem dX0_waysOfOthers_60 : decode cX0_waysOfOthers 60 = .ok (.getfield 25, 3) := by decide +kernel
theorem dX0_waysOfOthers_63 : decode cX0_waysOfOthers 63 = .ok (.imul, 1) := by decide +kernel
theorem dX0_waysOfOthers_64 : decode cX0_waysOfOthers 64 = .ok (.iconst 1, 1) := by decide +kernel
theorem dX0_waysOfOthers_65 : decode cX0_waysOfOthers 65 = .ok (.iadd, 1) := by decide +kernel
theorem dX0_waysOfOthers_66 : decode cX0_waysOfOthers 66 = .ok (.invokestatic 32, 3) := by decide +kernel
theorem dX0_waysOfOthers_69 : decode cX0_waysOfOthers 69 = .ok (.i2l, 1) := by decide +kernel
theorem dX0_waysOfOthers_70 : decode cX0_waysOfOthers 70 = .ok (.lmul, 1) := by decide +kernel
theorem dX0_waysOfOthers_71 : decode cX0_waysOfOthers 71 = .ok (.lstore_n 3, 1) := by decide +kernel
theorem dX0_waysOfOthers_72 : decode cX0_waysOfOthers 72 = .ok (.iinc 5 1, 3) := by decide +kernel
theorem dX0_waysOfOthers_75 : decode cX0_waysOfOthers 75 = .ok (.goto (-70), 3) := by decide +kernel
theorem dX0_waysOfOthers_78 : decode cX0_waysOfOthers 78 = .ok (.lload_n 3, 1) := by decide +kernel
theorem dX0_waysOfOthers_79 : decode cX0_waysOfOthers 79 = .ok (.lreturn, 1) := by decide +kernel
theorem dX0_distance_0 : decode cX0_distance 0 = .ok (.aload_n 0, 1) := by decide +kernel
theorem dX0_distance_1 : decode cX0_distance 1 = .ok (.invokevirtual 36, 3) := by decide +kernel
theorem dX0_distance_4 : decode cX0_distance 4 = .ok (.lstore_n 3, 1) := by decide +kernel
theorem dX0_distance_5 : decode cX0_distance 5 = .ok (.lload_n 3, 1) := by decide +kernel
theorem dX0_distance_6 : decode cX0_distance 6 = .ok (.lstore 5, 2) := by decide +kernel
theorem dX0_distance_8 : decode cX0_distance 8 = .ok (.lconst 0, 1) := by decide +kernel
theorem dX0_distance_9 : decode cX0_distance 9 = .ok (.lstore 7, 2) := by decide +kernel
theorem dX0_distance_11 : decode cX0_distance 11 = .ok (.iconst 0, 1) := by decide +kernel
theorem dX0_distance_12 : decode cX0_distance 12 = .ok (.istore 9, 2) := by decide +kernel
theorem dX0_distance_14 : decode cX0_distance 14 = .ok (.iload 9, 2) := by decide +kernel
theorem dX0_distance_16 : decode cX0_distance 16 = .ok (.aload_n 0, 1) := by decide +kernel
theorem dX0_distance_17 : decode cX0_distance 17 = .ok (.getfield 21, 3) := by decide +kernel
theorem dX0_distance_20 : decode cX0_distance 20 = .ok (.if_icmp .ge 65, 3) := by decide +kernel
theorem dX0_distance_23 : decode cX0_distance 23 = .ok (.lload 7, 2) := by decide +kernel
theorem dX0_distance_25 : decode cX0_distance 25 = .ok (.lload_n 1, 1) := by decide +kernel
theorem dX0_distance_26 : decode cX0_distance 26 = .ok (.lcmp, 1) := by decide +kernel
theorem dX0_distance_27 : decode cX0_distance 27 = .ok (.ifCond .ge 58, 3) := by decide +kernel
theorem dX0_distance_30 : decode cX0_distance 30 = .ok (.iload 9, 2) := by decide +kernel
theorem dX0_distance_32 : decode cX0_distance 32 = .ok (.aload_n 0, 1) := by decide +kernel
theorem dX0_distance_33 : decode cX0_distance 33 = .ok (.getfield 21, 3) := by decide +kernel
theorem dX0_distance_36 : decode cX0_distance 36 = .ok (.iconst 1, 1) := by decide +kernel
theorem dX0_distance_37 : decode cX0_distance 37 = .ok (.isub, 1) := by decide +kernel
theorem dX0_distance_38 : decode cX0_distance 38 = .ok (.if_icmp .ne 8, 3) := by decide +kernel
theorem dX0_distance_41 : decode cX0_distance 41 = .ok (.lload 5, 2) := by decide +kernel
theorem dX0_distance_43 : decode cX0_distance 43 = .ok (.goto 9, 3) := by decide +kernel
theorem dX0_distance_46 : decode cX0_distance 46 = .ok (.aload_n 0, 1) := by decide +kernel
theorem dX0_distance_47 : decode cX0_distance 47 = .ok (.iload 9, 2) := by decide +kernel
theorem dX0_distance_49 : decode cX0_distance 49 = .ok (.invokevirtual 40, 3) := by decide +kernel
theorem dX0_distance_52 : decode cX0_distance 52 = .ok (.lstore 10, 2) := by decide +kernel
theorem dX0_distance_54 : decode cX0_distance 54 = .ok (.lload 5, 2) := by decide +kernel
theorem dX0_distance_56 : decode cX0_distance 56 = .ok (.lload 10, 2) := by decide +kernel
theorem dX0_distance_58 : decode cX0_distance 58 = .ok (.lsub, 1) := by decide +kernel
theorem dX0_distance_59 : decode cX0_distance 59 = .ok (.lstore 5, 2) := by decide +kernel
theorem dX0_distance_61 : decode cX0_distance 61 = .ok (.lload 7, 2) := by decide +kernel
theorem dX0_distance_63 : decode cX0_distance 63 = .ok (.aload_n 0, 1) := by decide +kernel
theorem dX0_distance_64 : decode cX0_distance 64 = .ok (.getfield 21, 3) := by decide +kernel
theorem dX0_distance_67 : decode cX0_distance 67 = .ok (.i2l, 1) := by decide +kernel
theorem dX0_distance_68 : decode cX0_distance 68 = .ok (.lload 10, 2) := by decide +kernel
theorem dX0_distance_70 : decode cX0_distance 70 = .ok (.lmul, 1) := by decide +kernel
theorem dX0_distance_71 : decode cX0_distance 71 = .ok (.lload_n 3, 1) := by decide +kernel
theorem dX0_distance_72 : decode cX0_distance 72 = .ok (.lsub, 1) := by decide +kernel
theorem dX0_distance_73 : decode cX0_distance 73 = .ok (.invokestatic 44, 3) := by decide +kernel
theorem dX0_distance_76 : decode cX0_distance 76 = .ok (.ladd, 1) := by decide +kernel
theorem dX0_distance_77 : decode cX0_distance 77 = .ok (.lstore 7, 2) := by decide +kernel
theorem dX0_distance_79 : decode cX0_distance 79 = .ok (.iinc 9 1, 3) := by decide +kernel
theorem dX0_distance_82 : decode cX0_distance 82 = .ok (.goto (-68), 3) := by decide +kernel
theorem dX0_distance_85 : decode cX0_distance 85 = .ok (.lload 7, 2) := by decide +kernel
theorem dX0_distance_87 : decode cX0_distance 87 = .ok (.lreturn, 1) := by decide +kernel
theorem dX0_seekEven_0 : decode cX0_seekEven 0 = .ok (.aload_n 0, 1) := by decide +kernel
theorem dX0_seekEven_1 : decode cX0_seekEven 1 = .ok (.ldc2_w 50, 3) := by decide +kernel
theorem dX0_seekEven_4 : decode cX0_seekEven 4 = .ok (.putfield 52, 3) := by decide +kernel
theorem dX0_seekEven_7 : decode cX0_seekEven 7 = .ok (.iconst 0, 1) := by decide +kernel
theorem dX0_seekEven_8 : decode cX0_seekEven 8 = .ok (.istore_n 1, 1) := by decide +kernel
theorem dX0_seekEven_9 : decode cX0_seekEven 9 = .ok (.iload_n 1, 1) := by decide +kernel
theorem dX0_seekEven_10 : decode cX0_seekEven 10 = .ok (.bipush 20, 2) := by decide +kernel
theorem dX0_seekEven_12 : decode cX0_seekEven 12 = .ok (.if_icmp .gt 64, 3) := by decide +kernel
theorem dX0_seekEven_15 : decode cX0_seekEven 15 = .ok (.iconst 0, 1) := by decide +kernel
theorem dX0_seekEven_16 : decode cX0_seekEven 16 = .ok (.istore_n 2, 1) := by decide +kernel
theorem dX0_seekEven_17 : decode cX0_seekEven 17 = .ok (.iload_n 2, 1) := by decide +kernel
theorem dX0_seekEven_18 : decode cX0_seekEven 18 = .ok (.bipush 20, 2) := by decide +kernel
theorem dX0_seekEven_20 : decode cX0_seekEven 20 = .ok (.if_icmp .gt 50, 3) := by decide +kernel
theorem dX0_seekEven_23 : decode cX0_seekEven 23 = .ok (.aload_n 0, 1) := by decide +kernel
theorem dX0_seekEven_24 : decode cX0_seekEven 24 = .ok (.iload_n 1, 1) := by decide +kernel
theorem dX0_seekEven_25 : decode cX0_seekEven 25 = .ok (.ifCond .eq 7, 3) := by decide +kernel
theorem dX0_seekEven_28 : decode cX0_seekEven 28 = .ok (.iload_n 2, 1) := by decide +kernel
theorem dX0_seekEven_29 : decode cX0_seekEven 29 = .ok (.ifCond .ne 7, 3) := by decide +kernel
theorem dX0_seekEven_32 : decode cX0_seekEven 32 = .ok (.iconst 1, 1) := by decide +kernel
theorem dX0_seekEven_33 : decode cX0_seekEven 33 = .ok (.goto 4, 3) := by decide +kernel
theorem dX0_seekEven_36 : decode cX0_seekEven 36 = .ok (.iconst 0, 1) := by decide +kernel
theorem dX0_seekEven_37 : decode cX0_seekEven 37 = .ok (.invokevirtual 56, 3) := by decide +kernel
theorem dX0_seekEven_40 : decode cX0_seekEven 40 = .ok (.istore_n 3, 1) := by decide +kernel
theorem dX0_seekEven_41 : decode cX0_seekEven 41 = .ok (.iconst 0, 1) := by decide +kernel
theorem dX0_seekEven_42 : decode cX0_seekEven 42 = .ok (.istore 4, 2) := by decide +kernel
theorem dX0_seekEven_44 : decode cX0_seekEven 44 = .ok (.iload 4, 2) := by decide +kernel
theorem dX0_seekEven_46 : decode cX0_seekEven 46 = .ok (.iload_n 3, 1) := by decide +kernel
theorem dX0_seekEven_47 : decode cX0_seekEven 47 = .ok (.if_icmp .ge 17, 3) := by decide +kernel
theorem dX0_seekEven_50 : decode cX0_seekEven 50 = .ok (.aload_n 0, 1) := by decide +kernel
theorem dX0_seekEven_51 : decode cX0_seekEven 51 = .ok (.iload_n 1, 1) := by decide +kernel
theorem dX0_seekEven_52 : decode cX0_seekEven 52 = .ok (.iload_n 2, 1) := by decide +kernel
theorem dX0_seekEven_53 : decode cX0_seekEven 53 = .ok (.iload 4, 2) := by decide +kernel
theorem dX0_seekEven_55 : decode cX0_seekEven 55 = .ok (.invokevirtual 60, 3) := by decide +kernel
theorem dX0_seekEven_58 : decode cX0_seekEven 58 = .ok (.iinc 4 1, 3) := by decide +kernel
theorem dX0_seekEven_61 : decode cX0_seekEven 61 = .ok (.goto (-17), 3) := by decide +kernel
theorem dX0_seekEven_64 : decode cX0_seekEven 64 = .ok (.iinc 2 1, 3) := by decide +kernel
theorem dX0_seekEven_67 : decode cX0_seekEven 67 = .ok (.goto (-50), 3) := by decide +kernel
theorem dX0_seekEven_70 : decode cX0_seekEven 70 = .ok (.iinc 1 1, 3) := by decide +kernel
theorem dX0_seekEven_73 : decode cX0_seekEven 73 = .ok (.goto (-64), 3) := by decide +kernel
theorem dX0_seekEven_76 : decode cX0_seekEven 76 = .ok (.return_, 1) := by decide +kernel
theorem dX0_thirdWeights_0 : decode cX0_thirdWeights 0 = .ok (.aload_n 0, 1) := by decide +kernel
theorem dX0_thirdWeights_1 : decode cX0_thirdWeights 1 = .ok (.getfield 21, 3) := by decide +kernel
theorem dX0_thirdWeights_4 : decode cX0_thirdWeights 4 = .ok (.iconst 2, 1) := by decide +kernel
theorem dX0_thirdWeights_5 : decode cX0_thirdWeights 5 = .ok (.if_icmp .le 14, 3) := by decide +kernel
theorem dX0_thirdWeights_8 : decode cX0_thirdWeights 8 = .ok (.iload_n 1, 1) := by decide +kernel
theorem dX0_thirdWeights_9 : decode cX0_thirdWeights 9 = .ok (.ifCond .eq 8, 3) := by decide +kernel
theorem dX0_thirdWeights_12 : decode cX0_thirdWeights 12 = .ok (.bipush 21, 2) := by decide +kernel
theorem dX0_thirdWeights_14 : decode cX0_thirdWeights 14 = .ok (.goto 4, 3) := by decide +kernel
theorem dX0_thirdWeights_17 : decode cX0_thirdWeights 17 = .ok (.iconst 1, 1) := by decide +kernel
theorem dX0_thirdWeights_18 : decode cX0_thirdWeights 18 = .ok (.ireturn, 1) := by decide +kernel
theorem dX0_thirdWeights_19 : decode cX0_thirdWeights 19 = .ok (.iload_n 1, 1) := by decide +kernel
theorem dX0_thirdWeights_20 : decode cX0_thirdWeights 20 = .ok (.ifCond .eq 7, 3) := by decide +kernel
theorem dX0_thirdWeights_23 : decode cX0_thirdWeights 23 = .ok (.iconst 1, 1) := by decide +kernel
theorem dX0_thirdWeights_24 : decode cX0_thirdWeights 24 = .ok (.goto 4, 3) := by decide +kernel
theorem dX0_thirdWeights_27 : decode cX0_thirdWeights 27 = .ok (.iconst 0, 1) := by decide +kernel
theorem dX0_thirdWeights_28 : decode cX0_thirdWeights 28 = .ok (.ireturn, 1) := by decide +kernel
theorem dX0_tryWeights_0 : decode cX0_tryWeights 0 = .ok (.aload_n 0, 1) := by decide +kernel
theorem dX0_tryWeights_1 : decode cX0_tryWeights 1 = .ok (.getfield 15, 3) := by decide +kernel
theorem dX0_tryWeights_4 : decode cX0_tryWeights 4 = .ok (.iconst 0, 1) := by decide +kernel
theorem dX0_tryWeights_5 : decode cX0_tryWeights 5 = .ok (.aload_n 0, 1) := by decide +kernel
theorem dX0_tryWeights_6 : decode cX0_tryWeights 6 = .ok (.getfield 9, 3) := by decide +kernel
theorem dX0_tryWeights_9 : decode cX0_tryWeights 9 = .ok (.iconst 0, 1) := by decide +kernel
theorem dX0_tryWeights_10 : decode cX0_tryWeights 10 = .ok (.iaload, 1) := by decide +kernel
theorem dX0_tryWeights_11 : decode cX0_tryWeights 11 = .ok (.iload_n 1, 1) := by decide +kernel
theorem dX0_tryWeights_12 : decode cX0_tryWeights 12 = .ok (.isub, 1) := by decide +kernel
theorem dX0_tryWeights_13 : decode cX0_tryWeights 13 = .ok (.iastore, 1) := by decide +kernel
theorem dX0_tryWeights_14 : decode cX0_tryWeights 14 = .ok (.aload_n 0, 1) := by decide +kernel
theorem dX0_tryWeights_15 : decode cX0_tryWeights 15 = .ok (.getfield 15, 3) := by decide +kernel
theorem dX0_tryWeights_18 : decode cX0_tryWeights 18 = .ok (.iconst 1, 1) := by decide +kernel
theorem dX0_tryWeights_19 : decode cX0_tryWeights 19 = .ok (.aload_n 0, 1) := by decide +kernel
theorem dX0_tryWeights_20 : decode cX0_tryWeights 20 = .ok (.getfield 9, 3) := by decide +kernel
theorem dX0_tryWeights_23 : decode cX0_tryWeights 23 = .ok (.iconst 1, 1) := by decide +kernel
theorem dX0_tryWeights_24 : decode cX0_tryWeights 24 = .ok (.iaload, 1) := by decide +kernel
theorem dX0_tryWeights_25 : decode cX0_tryWeights 25 = .ok (.iload_n 2, 1) := by decide +kernel
theorem dX0_tryWeights_26 : decode cX0_tryWeights 26 = .ok (.isub, 1) := by decide +kernel
theorem dX0_tryWeights_27 : decode cX0_tryWeights 27 = .ok (.iastore, 1) := by decide +kernel
theorem dX0_tryWeights_28 : decode cX0_tryWeights 28 = .ok (.aload_n 0, 1) := by decide +kernel
theorem dX0_tryWeights_29 : decode cX0_tryWeights 29 = .ok (.getfield 15, 3) := by decide +kernel
theorem dX0_tryWeights_32 : decode cX0_tryWeights 32 = .ok (.iconst 2, 1) := by decide +kernel
theorem dX0_tryWeights_33 : decode cX0_tryWeights 33 = .ok (.aload_n 0, 1) := by decide +kernel
theorem dX0_tryWeights_34 : decode cX0_tryWeights 34 = .ok (.getfield 9, 3) := by decide +kernel
theorem dX0_tryWeights_37 : decode cX0_tryWeights 37 = .ok (.iconst 2, 1) := by decide +kernel
theorem dX0_tryWeights_38 : decode cX0_tryWeights 38 = .ok (.iaload, 1) := by decide +kernel
theorem dX0_tryWeights_39 : decode cX0_tryWeights 39 = .ok (.iload_n 3, 1) := by decide +kernel
theorem dX0_tryWeights_40 : decode cX0_tryWeights 40 = .ok (.isub, 1) := by decide +kernel
theorem dX0_tryWeights_41 : decode cX0_tryWeights 41 = .ok (.iastore, 1) := by decide +kernel
theorem dX0_tryWeights_42 : decode cX0_tryWeights 42 = .ok (.aload_n 0, 1) := by decide +kernel
theorem dX0_tryWeights_43 : decode cX0_tryWeights 43 = .ok (.aload_n 0, 1) := by decide +kernel
theorem dX0_tryWeights_44 : decode cX0_tryWeights 44 = .ok (.getfield 52, 3) := by decide +kernel
theorem dX0_tryWeights_47 : decode cX0_tryWeights 47 = .ok (.invokevirtual 64, 3) := by decide +kernel
theorem dX0_tryWeights_50 : decode cX0_tryWeights 50 = .ok (.lstore 4, 2) := by decide +kernel
theorem dX0_tryWeights_52 : decode cX0_tryWeights 52 = .ok (.lload 4, 2) := by decide +kernel
theorem dX0_tryWeights_54 : decode cX0_tryWeights 54 = .ok (.aload_n 0, 1) := by decide +kernel
theorem dX0_tryWeights_55 : decode cX0_tryWeights 55 = .ok (.getfield 52, 3) := by decide +kernel
theorem dX0_tryWeights_58 : decode cX0_tryWeights 58 = .ok (.lcmp, 1) := by decide +kernel
theorem dX0_tryWeights_59 : decode cX0_tryWeights 59 = .ok (.ifCond .ge 30, 3) := by decide +kernel
theorem dX0_tryWeights_62 : decode cX0_tryWeights 62 = .ok (.aload_n 0, 1) := by decide +kernel
theorem dX0_tryWeights_63 : decode cX0_tryWeights 63 = .ok (.lload 4, 2) := by decide +kernel
theorem dX0_tryWeights_65 : decode cX0_tryWeights 65 = .ok (.putfield 52, 3) := by decide +kernel
theorem dX0_tryWeights_68 : decode cX0_tryWeights 68 = .ok (.aload_n 0, 1) := by decide +kernel
theorem dX0_tryWeights_69 : decode cX0_tryWeights 69 = .ok (.getfield 18, 3) := by decide +kernel
theorem dX0_tryWeights_72 : decode cX0_tryWeights 72 = .ok (.iconst 0, 1) := by decide +kernel
theorem dX0_tryWeights_73 : decode cX0_tryWeights 73 = .ok (.iload_n 1, 1) := by decide +kernel
theorem dX0_tryWeights_74 : decode cX0_tryWeights 74 = .ok (.iastore, 1) := by decide +kernel
theorem dX0_tryWeights_75 : decode cX0_tryWeights 75 = .ok (.aload_n 0, 1) := by decide +kernel
theorem dX0_tryWeights_76 : decode cX0_tryWeights 76 = .ok (.getfield 18, 3) := by decide +kernel
theorem dX0_tryWeights_79 : decode cX0_tryWeights 79 = .ok (.iconst 1, 1) := by decide +kernel
theorem dX0_tryWeights_80 : decode cX0_tryWeights 80 = .ok (.iload_n 2, 1) := by decide +kernel
theorem dX0_tryWeights_81 : decode cX0_tryWeights 81 = .ok (.iastore, 1) := by decide +kernel
theorem dX0_tryWeights_82 : decode cX0_tryWeights 82 = .ok (.aload_n 0, 1) := by decide +kernel
theorem dX0_tryWeights_83 : decode cX0_tryWeights 83 = .ok (.getfield 18, 3) := by decide +kernel
theorem dX0_tryWeights_86 : decode cX0_tryWeights 86 = .ok (.iconst 2, 1) := by decide +kernel
theorem dX0_tryWeights_87 : decode cX0_tryWeights 87 = .ok (.iload_n 3, 1) := by decide +kernel
theorem dX0_tryWeights_88 : decode cX0_tryWeights 88 = .ok (.iastore, 1) := by decide +kernel
theorem dX0_tryWeights_89 : decode cX0_tryWeights 89 = .ok (.return_, 1) := by decide +kernel
theorem dX1_init_0 : decode cX1_init 0 = .ok (.aload_n 0, 1) := by decide +kernel
theorem dX1_init_1 : decode cX1_init 1 = .ok (.invokespecial 1, 3) := by decide +kernel
theorem dX1_init_4 : decode cX1_init 4 = .ok (.aload_n 0, 1) := by decide +kernel
theorem dX1_init_5 : decode cX1_init 5 = .ok (.bipush 6, 2) := by decide +kernel
theorem dX1_init_7 : decode cX1_init 7 = .ok (.newarray .int, 2) := by decide +kernel
theorem dX1_init_9 : decode cX1_init 9 = .ok (.dup, 1) := by decide +kernel
theorem dX1_init_10 : decode cX1_init 10 = .ok (.iconst 0, 1) := by decide +kernel
theorem dX1_init_11 : decode cX1_init 11 = .ok (.iconst 1, 1) := by decide +kernel
theorem dX1_init_12 : decode cX1_init 12 = .ok (.iastore, 1) := by decide +kernel
theorem dX1_init_13 : decode cX1_init 13 = .ok (.dup, 1) := by decide +kernel
theorem dX1_init_14 : decode cX1_init 14 = .ok (.iconst 1, 1) := by decide +kernel
theorem dX1_init_15 : decode cX1_init 15 = .ok (.iconst 0, 1) := by decide +kernel
theorem dX1_init_16 : decode cX1_init 16 = .ok (.iastore, 1) := by decide +kernel
theorem dX1_init_17 : decode cX1_init 17 = .ok (.dup, 1) := by decide +kernel
theorem dX1_init_18 : decode cX1_init 18 = .ok (.iconst 2, 1) := by decide +kernel
theorem dX1_init_19 : decode cX1_init 19 = .ok (.iconst 0, 1) := by decide +kernel
theorem dX1_init_20 : decode cX1_init 20 = .ok (.iastore, 1) := by decide +kernel
theorem dX1_init_21 : decode cX1_init 21 = .ok (.dup, 1) := by decide +kernel
theorem dX1_init_22 : decode cX1_init 22 = .ok (.iconst 3, 1) := by decide +kernel
theorem dX1_init_23 : decode cX1_init 23 = .ok (.iconst 0, 1) := by decide +kernel
theorem dX1_init_24 : decode cX1_init 24 = .ok (.iastore, 1) := by decide +kernel
theorem dX1_init_25 : decode cX1_init 25 = .ok (.dup, 1) := by decide +kernel
theorem dX1_init_26 : decode cX1_init 26 = .ok (.iconst 4, 1) := by decide +kernel
theorem dX1_init_27 : decode cX1_init 27 = .ok (.iconst 0, 1) := by decide +kernel
theorem dX1_init_28 : decode cX1_init 28 = .ok (.iastore, 1) := by decide +kernel
theorem dX1_init_29 : decode cX1_init 29 = .ok (.dup, 1) := by decide +kernel
theorem dX1_init_30 : decode cX1_init 30 = .ok (.iconst 5, 1) := by decide +kernel
theorem dX1_init_31 : decode cX1_init 31 = .ok (.iconst 1, 1) := by decide +kernel
theorem dX1_init_32 : decode cX1_init 32 = .ok (.iastore, 1) := by decide +kernel
theorem dX1_init_33 : decode cX1_init 33 = .ok (.putfield 7, 3) := by decide +kernel
theorem dX1_init_36 : decode cX1_init 36 = .ok (.return_, 1) := by decide +kernel
theorem dX1_seek_0 : decode cX1_seek 0 = .ok (.iconst 0, 1) := by decide +kernel
theorem dX1_seek_1 : decode cX1_seek 1 = .ok (.istore_n 2, 1) := by decide +kernel
theorem dX1_seek_2 : decode cX1_seek 2 = .ok (.iconst 1, 1) := by decide +kernel
theorem dX1_seek_3 : decode cX1_seek 3 = .ok (.istore_n 3, 1) := by decide +kernel
theorem dX1_seek_4 : decode cX1_seek 4 = .ok (.iload_n 3, 1) := by decide +kernel
theorem dX1_seek_5 : decode cX1_seek 5 = .ok (.bipush 12, 2) := by decide +kernel
theorem dX1_seek_7 : decode cX1_seek 7 = .ok (.if_icmp .gt 93, 3) := by decide +kernel
theorem dX1_seek_10 : decode cX1_seek 10 = .ok (.iconst 1, 1) := by decide +kernel
theorem dX1_seek_11 : decode cX1_seek 11 = .ok (.istore 4, 2) := by decide +kernel
theorem dX1_seek_13 : decode cX1_seek 13 = .ok (.iload 4, 2) := by decide +kernel
theorem dX1_seek_15 : decode cX1_seek 15 = .ok (.bipush 12, 2) := by decide +kernel
theorem dX1_seek_17 : decode cX1_seek 17 = .ok (.if_icmp .gt 77, 3) := by decide +kernel
theorem dX1_seek_20 : decode cX1_seek 20 = .ok (.iconst 1, 1) := by decide +kernel
theorem dX1_seek_21 : decode cX1_seek 21 = .ok (.istore 5, 2) := by decide +kernel
theorem dX1_seek_23 : decode cX1_seek 23 = .ok (.iload 5, 2) := by decide +kernel
theorem dX1_seek_25 : decode cX1_seek 25 = .ok (.bipush 12, 2) := by decide +kernel
theorem dX1_seek_27 : decode cX1_seek 27 = .ok (.if_icmp .gt 61, 3) := by decide +kernel
theorem dX1_seek_30 : decode cX1_seek 30 = .ok (.aload_n 0, 1) := by decide +kernel
theorem dX1_seek_31 : decode cX1_seek 31 = .ok (.iconst 3, 1) := by decide +kernel
theorem dX1_seek_32 : decode cX1_seek 32 = .ok (.iload_n 3, 1) := by decide +kernel
theorem dX1_seek_33 : decode cX1_seek 33 = .ok (.iload 4, 2) := by decide +kernel
theorem dX1_seek_35 : decode cX1_seek 35 = .ok (.iload 5, 2) := by decide +kernel
theorem dX1_seek_37 : decode cX1_seek 37 = .ok (.invokevirtual 13, 3) := by decide +kernel
theorem dX1_seek_40 : decode cX1_seek 40 = .ok (.istore 6, 2) := by decide +kernel
theorem dX1_seek_42 : decode cX1_seek 42 = .ok (.aload_n 0, 1) := by decide +kernel
theorem dX1_seek_43 : decode cX1_seek 43 = .ok (.iconst 0, 1) := by decide +kernel
theorem dX1_seek_44 : decode cX1_seek 44 = .ok (.iload_n 3, 1) := by decide +kernel
theorem dX1_seek_45 : decode cX1_seek 45 = .ok (.iload 4, 2) := by decide +kernel
theorem dX1_seek_47 : decode cX1_seek 47 = .ok (.iload 5, 2) := by decide +kernel
theorem dX1_seek_49 : decode cX1_seek 49 = .ok (.invokevirtual 13, 3) := by decide +kernel
theorem dX1_seek_52 : decode cX1_seek 52 = .ok (.iload_n 1, 1) := by decide +kernel
theorem dX1_seek_53 : decode cX1_seek 53 = .ok (.if_icmp .gt 29, 3) := by decide +kernel
theorem dX1_seek_56 : decode cX1_seek 56 = .ok (.iload_n 2, 1) := by decide +kernel
theorem dX1_seek_57 : decode cX1_seek 57 = .ok (.ifCond .eq 12, 3) := by decide +kernel
theorem dX1_seek_60 : decode cX1_seek 60 = .ok (.iload 6, 2) := by decide +kernel
theorem dX1_seek_62 : decode cX1_seek 62 = .ok (.aload_n 0, 1) := by decide +kernel
theorem dX1_seek_63 : decode cX1_seek 63 = .ok (.getfield 17, 3) := by decide +kernel
theorem dX1_seek_66 : decode cX1_seek 66 = .ok (.if_icmp .le 16, 3) := by decide +kernel
theorem dX1_seek_69 : decode cX1_seek 69 = .ok (.iconst 1, 1) := by decide +kernel
theorem dX1_seek_70 : decode cX1_seek 70 = .ok (.istore_n 2, 1) := by decide +kernel
theorem dX1_seek_71 : decode cX1_seek 71 = .ok (.aload_n 0, 1) := by decide +kernel
theorem dX1_seek_72 : decode cX1_seek 72 = .ok (.iload_n 3, 1) := by decide +kernel
theorem dX1_seek_73 : decode cX1_seek 73 = .ok (.iload 4, 2) := by decide +kernel
theorem dX1_seek_75 : decode cX1_seek 75 = .ok (.iload 5, 2) := by decide +kernel
theorem dX1_seek_77 : decode cX1_seek 77 = .ok (.iload 6, 2) := by decide +kernel
theorem dX1_seek_79 : decode cX1_seek 79 = .ok (.invokevirtual 21, 3) := by decide +kernel
theorem dX1_seek_82 : decode cX1_seek 82 = .ok (.iinc 5 1, 3) := by decide +kernel
theorem dX1_seek_85 : decode cX1_seek 85 = .ok (.goto (-62), 3) := by decide +kernel
theorem dX1_seek_88 : decode cX1_seek 88 = .ok (.iinc 4 1, 3) := by decide +kernel
theorem dX1_seek_91 : decode cX1_seek 91 = .ok (.goto (-78), 3) := by decide +kernel
theorem dX1_seek_94 : decode cX1_seek 94 = .ok (.iinc 3 1, 3) := by decide +kernel
theorem dX1_seek_97 : decode cX1_seek 97 = .ok (.goto (-93), 3) := by decide +kernel
theorem dX1_seek_100 : decode cX1_seek 100 = .ok (.iload_n 2, 1) := by decide +kernel
theorem dX1_seek_101 : decode cX1_seek 101 = .ok (.ireturn, 1) := by decide +kernel
theorem dX1_sum_0 : decode cX1_sum 0 = .ok (.aload_n 0, 1) := by decide +kernel
theorem dX1_sum_1 : decode cX1_sum 1 = .ok (.getfield 7, 3) := by decide +kernel
theorem dX1_sum_4 : decode cX1_sum 4 = .ok (.iload_n 1, 1) := by decide +kernel
theorem dX1_sum_5 : decode cX1_sum 5 = .ok (.iaload, 1) := by decide +kernel
theorem dX1_sum_6 : decode cX1_sum 6 = .ok (.iload_n 2, 1) := by decide +kernel
theorem dX1_sum_7 : decode cX1_sum 7 = .ok (.imul, 1) := by decide +kernel
theorem dX1_sum_8 : decode cX1_sum 8 = .ok (.aload_n 0, 1) := by decide +kernel
theorem dX1_sum_9 : decode cX1_sum 9 = .ok (.getfield 7, 3) := by decide +kernel
theorem dX1_sum_12 : decode cX1_sum 12 = .ok (.iload_n 1, 1) := by decide +kernel
theorem dX1_sum_13 : decode cX1_sum 13 = .ok (.iconst 1, 1) := by decide +kernel
theorem dX1_sum_14 : decode cX1_sum 14 = .ok (.iadd, 1) := by decide +kernel
theorem dX1_sum_15 : decode cX1_sum 15 = .ok (.iaload, 1) := by decide +kernel
theorem dX1_sum_16 : decode cX1_sum 16 = .ok (.iload_n 3, 1) := by decide +kernel
theorem dX1_sum_17 : decode cX1_sum 17 = .ok (.imul, 1) := by decide +kernel
theorem dX1_sum_18 : decode cX1_sum 18 = .ok (.iadd, 1) := by decide +kernel
theorem dX1_sum_19 : decode cX1_sum 19 = .ok (.aload_n 0, 1) := by decide +kernel
theorem dX1_sum_20 : decode cX1_sum 20 = .ok (.getfield 7, 3) := by decide +kernel
theorem dX1_sum_23 : decode cX1_sum 23 = .ok (.iload_n 1, 1) := by decide +kernel
theorem dX1_sum_24 : decode cX1_sum 24 = .ok (.iconst 2, 1) := by decide +kernel
theorem dX1_sum_25 : decode cX1_sum 25 = .ok (.iadd, 1) := by decide +kernel
theorem dX1_sum_26 : decode cX1_sum 26 = .ok (.iaload, 1) := by decide +kernel
theorem dX1_sum_27 : decode cX1_sum 27 = .ok (.iload 4, 2) := by decide +kernel
theorem dX1_sum_29 : decode cX1_sum 29 = .ok (.imul, 1) := by decide +kernel
theorem dX1_sum_30 : decode cX1_sum 30 = .ok (.iadd, 1) := by decide +kernel
theorem dX1_sum_31 : decode cX1_sum 31 = .ok (.ireturn, 1) := by decide +kernel
theorem dX1_hold_0 : decode cX1_hold 0 = .ok (.aload_n 0, 1) := by decide +kernel
theorem dX1_hold_1 : decode cX1_hold 1 = .ok (.iload_n 1, 1) := by decide +kernel
theorem dX1_hold_2 : decode cX1_hold 2 = .ok (.putfield 25, 3) := by decide +kernel
theorem dX1_hold_5 : decode cX1_hold 5 = .ok (.aload_n 0, 1) := by decide +kernel
theorem dX1_hold_6 : decode cX1_hold 6 = .ok (.iload_n 2, 1) := by decide +kernel
theorem dX1_hold_7 : decode cX1_hold 7 = .ok (.putfield 28, 3) := by decide +kernel
theorem dX1_hold_10 : decode cX1_hold 10 = .ok (.aload_n 0, 1) := by decide +kernel
theorem dX1_hold_11 : decode cX1_hold 11 = .ok (.iload_n 3, 1) := by decide +kernel
theorem dX1_hold_12 : decode cX1_hold 12 = .ok (.putfield 31, 3) := by decide +kernel
theorem dX1_hold_15 : decode cX1_hold 15 = .ok (.aload_n 0, 1) := by decide +kernel
theorem dX1_hold_16 : decode cX1_hold 16 = .ok (.iload 4, 2) := by decide +kernel
theorem dX1_hold_18 : decode cX1_hold 18 = .ok (.putfield 17, 3) := by decide +kernel
theorem dX1_hold_21 : decode cX1_hold 21 = .ok (.return_, 1) := by decide +kernel
theorem dX2_init_0 : decode cX2_init 0 = .ok (.aload_n 0, 1) := by decide +kernel
theorem dX2_init_1 : decode cX2_init 1 = .ok (.invokespecial 3, 3) := by decide +kernel
theorem dX2_init_4 : decode cX2_init 4 = .ok (.aload_n 0, 1) := by decide +kernel
theorem dX2_init_5 : decode cX2_init 5 = .ok (.bipush 6, 2) := by decide +kernel
theorem dX2_init_7 : decode cX2_init 7 = .ok (.newarray .int, 2) := by decide +kernel
theorem dX2_init_9 : decode cX2_init 9 = .ok (.putfield 11, 3) := by decide +kernel
theorem dX2_init_12 : decode cX2_init 12 = .ok (.aload_n 0, 1) := by decide +kernel
theorem dX2_init_13 : decode cX2_init 13 = .ok (.invokevirtual 15, 3) := by decide +kernel
theorem dX2_init_16 : decode cX2_init 16 = .ok (.return_, 1) := by decide +kernel
theorem dX2_forget_0 : decode cX2_forget 0 = .ok (.getstatic 18, 3) := by decide +kernel
theorem dX2_forget_3 : decode cX2_forget 3 = .ok (.iconst 0, 1) := by decide +kernel
theorem dX2_forget_4 : decode cX2_forget 4 = .ok (.aload_n 0, 1) := by decide +kernel
theorem dX2_forget_5 : decode cX2_forget 5 = .ok (.getfield 11, 3) := by decide +kernel
theorem dX2_forget_8 : decode cX2_forget 8 = .ok (.iconst 0, 1) := by decide +kernel
theorem dX2_forget_9 : decode cX2_forget 9 = .ok (.bipush 6, 2) := by decide +kernel
theorem dX2_forget_11 : decode cX2_forget 11 = .ok (.invokestatic 21, 3) := by decide +kernel
theorem dX2_forget_14 : decode cX2_forget 14 = .ok (.return_, 1) := by decide +kernel
theorem dX2_become_0 : decode cX2_become 0 = .ok (.aload_n 1, 1) := by decide +kernel
theorem dX2_become_1 : decode cX2_become 1 = .ok (.getfield 11, 3) := by decide +kernel
theorem dX2_become_4 : decode cX2_become 4 = .ok (.iconst 0, 1) := by decide +kernel
theorem dX2_become_5 : decode cX2_become 5 = .ok (.aload_n 0, 1) := by decide +kernel
theorem dX2_become_6 : decode cX2_become 6 = .ok (.getfield 11, 3) := by decide +kernel
theorem dX2_become_9 : decode cX2_become 9 = .ok (.iconst 0, 1) := by decide +kernel
theorem dX2_become_10 : decode cX2_become 10 = .ok (.bipush 6, 2) := by decide +kernel
theorem dX2_become_12 : decode cX2_become 12 = .ok (.invokestatic 21, 3) := by decide +kernel
theorem dX2_become_15 : decode cX2_become 15 = .ok (.return_, 1) := by decide +kernel
theorem dX2_lastOf_0 : decode cX2_lastOf 0 = .ok (.aload_n 0, 1) := by decide +kernel
theorem dX2_lastOf_1 : decode cX2_lastOf 1 = .ok (.getfield 11, 3) := by decide +kernel
theorem dX2_lastOf_4 : decode cX2_lastOf 4 = .ok (.iconst 1, 1) := by decide +kernel
theorem dX2_lastOf_5 : decode cX2_lastOf 5 = .ok (.iaload, 1) := by decide +kernel
theorem dX2_lastOf_6 : decode cX2_lastOf 6 = .ok (.iload_n 1, 1) := by decide +kernel
theorem dX2_lastOf_7 : decode cX2_lastOf 7 = .ok (.invokestatic 27, 3) := by decide +kernel
theorem dX2_lastOf_10 : decode cX2_lastOf 10 = .ok (.ireturn, 1) := by decide +kernel
theorem dX2_bestOf_0 : decode cX2_bestOf 0 = .ok (.aload_n 0, 1) := by decide +kernel
theorem dX2_bestOf_1 : decode cX2_bestOf 1 = .ok (.getfield 11, 3) := by decide +kernel
theorem dX2_bestOf_4 : decode cX2_bestOf 4 = .ok (.iconst 0, 1) := by decide +kernel
theorem dX2_bestOf_5 : decode cX2_bestOf 5 = .ok (.iaload, 1) := by decide +kernel
theorem dX2_bestOf_6 : decode cX2_bestOf 6 = .ok (.iload_n 1, 1) := by decide +kernel
theorem dX2_bestOf_7 : decode cX2_bestOf 7 = .ok (.invokestatic 27, 3) := by decide +kernel
theorem dX2_bestOf_10 : decode cX2_bestOf 10 = .ok (.ireturn, 1) := by decide +kernel
theorem dX2_ceiling_0 : decode cX2_ceiling 0 = .ok (.iload_n 1, 1) := by decide +kernel
theorem dX2_ceiling_1 : decode cX2_ceiling 1 = .ok (.aload_n 0, 1) := by decide +kernel
theorem dX2_ceiling_2 : decode cX2_ceiling 2 = .ok (.getfield 11, 3) := by decide +kernel
theorem dX2_ceiling_5 : decode cX2_ceiling 5 = .ok (.iconst 5, 1) := by decide +kernel
theorem dX2_ceiling_6 : decode cX2_ceiling 6 = .ok (.iaload, 1) := by decide +kernel
theorem dX2_ceiling_7 : decode cX2_ceiling 7 = .ok (.iadd, 1) := by decide +kernel
theorem dX2_ceiling_8 : decode cX2_ceiling 8 = .ok (.ireturn, 1) := by decide +kernel
theorem dX2_moved_0 : decode cX2_moved 0 = .ok (.iload_n 3, 1) := by decide +kernel
theorem dX2_moved_1 : decode cX2_moved 1 = .ok (.iconst 1, 1) := by decide +kernel
theorem dX2_moved_2 : decode cX2_moved 2 = .ok (.if_icmp .lt 13, 3) := by decide +kernel
theorem dX2_moved_5 : decode cX2_moved 5 = .ok (.aload_n 0, 1) := by decide +kernel
theorem dX2_moved_6 : decode cX2_moved 6 = .ok (.getfield 11, 3) := by decide +kernel
theorem dX2_moved_9 : decode cX2_moved 9 = .ok (.iconst 3, 1) := by decide +kernel
theorem dX2_moved_10 : decode cX2_moved 10 = .ok (.iaload, 1) := by decide +kernel
theorem dX2_moved_11 : decode cX2_moved 11 = .ok (.iconst 1, 1) := by decide +kernel
theorem dX2_moved_12 : decode cX2_moved 12 = .ok (.if_icmp .ge 5, 3) := by decide +kernel
theorem dX2_moved_15 : decode cX2_moved 15 = .ok (.iload_n 1, 1) := by decide +kernel
theorem dX2_moved_16 : decode cX2_moved 16 = .ok (.ireturn, 1) := by decide +kernel
theorem dX2_moved_17 : decode cX2_moved 17 = .ok (.iload_n 2, 1) := by decide +kernel
theorem dX2_moved_18 : decode cX2_moved 18 = .ok (.iload_n 3, 1) := by decide +kernel
theorem dX2_moved_19 : decode cX2_moved 19 = .ok (.invokestatic 33, 3) := by decide +kernel
theorem dX2_moved_22 : decode cX2_moved 22 = .ok (.istore 4, 2) := by decide +kernel
theorem dX2_moved_24 : decode cX2_moved 24 = .ok (.aload_n 0, 1) := by decide +kernel
theorem dX2_moved_25 : decode cX2_moved 25 = .ok (.getfield 11, 3) := by decide +kernel
theorem dX2_moved_28 : decode cX2_moved 28 = .ok (.iconst 2, 1) := by decide +kernel
theorem dX2_moved_29 : decode cX2_moved 29 = .ok (.iaload, 1) := by decide +kernel
theorem dX2_moved_30 : decode cX2_moved 30 = .ok (.iload 4, 2) := by decide +kernel
theorem dX2_moved_32 : decode cX2_moved 32 = .ok (.iload_n 1, 1) := by decide +kernel
theorem dX2_moved_33 : decode cX2_moved 33 = .ok (.isub, 1) := by decide +kernel
theorem dX2_moved_34 : decode cX2_moved 34 = .ok (.imul, 1) := by decide +kernel
theorem dX2_moved_35 : decode cX2_moved 35 = .ok (.aload_n 0, 1) := by decide +kernel
theorem dX2_moved_36 : decode cX2_moved 36 = .ok (.getfield 11, 3) := by decide +kernel
theorem dX2_moved_39 : decode cX2_moved 39 = .ok (.iconst 3, 1) := by decide +kernel
theorem dX2_moved_40 : decode cX2_moved 40 = .ok (.iaload, 1) := by decide +kernel
theorem dX2_moved_41 : decode cX2_moved 41 = .ok (.idiv, 1) := by decide +kernel
theorem dX2_moved_42 : decode cX2_moved 42 = .ok (.istore 5, 2) := by decide +kernel
theorem dX2_moved_44 : decode cX2_moved 44 = .ok (.iload_n 1, 1) := by decide +kernel
theorem dX2_moved_45 : decode cX2_moved 45 = .ok (.iload 5, 2) := by decide +kernel
theorem dX2_moved_47 : decode cX2_moved 47 = .ok (.aload_n 0, 1) := by decide +kernel
theorem dX2_moved_48 : decode cX2_moved 48 = .ok (.getfield 11, 3) := by decide +kernel
theorem dX2_moved_51 : decode cX2_moved 51 = .ok (.iconst 4, 1) := by decide +kernel
theorem dX2_moved_52 : decode cX2_moved 52 = .ok (.iaload, 1) := by decide +kernel
theorem dX2_moved_53 : decode cX2_moved 53 = .ok (.ineg, 1) := by decide +kernel
theorem dX2_moved_54 : decode cX2_moved 54 = .ok (.aload_n 0, 1) := by decide +kernel
theorem dX2_moved_55 : decode cX2_moved 55 = .ok (.getfield 11, 3) := by decide +kernel
theorem dX2_moved_58 : decode cX2_moved 58 = .ok (.iconst 4, 1) := by decide +kernel
theorem dX2_moved_59 : decode cX2_moved 59 = .ok (.iaload, 1) := by decide +kernel
theorem dX2_moved_60 : decode cX2_moved 60 = .ok (.invokestatic 36, 3) := by decide +kernel
theorem dX2_moved_63 : decode cX2_moved 63 = .ok (.iadd, 1) := by decide +kernel
theorem dX2_moved_64 : decode cX2_moved 64 = .ok (.iconst 0, 1) := by decide +kernel
theorem dX2_moved_65 : decode cX2_moved 65 = .ok (.sipush 200, 3) := by decide +kernel
theorem dX2_moved_68 : decode cX2_moved 68 = .ok (.invokestatic 36, 3) := by decide +kernel
theorem dX2_moved_71 : decode cX2_moved 71 = .ok (.ireturn, 1) := by decide +kernel
theorem dX3_init_0 : decode cX3_init 0 = .ok (.aload_n 0, 1) := by decide +kernel
theorem dX3_init_1 : decode cX3_init 1 = .ok (.invokespecial 3, 3) := by decide +kernel
theorem dX3_init_4 : decode cX3_init 4 = .ok (.aload_n 0, 1) := by decide +kernel
theorem dX3_init_5 : decode cX3_init 5 = .ok (.sipush 200, 3) := by decide +kernel
theorem dX3_init_8 : decode cX3_init 8 = .ok (.newarray .int, 2) := by decide +kernel
theorem dX3_init_10 : decode cX3_init 10 = .ok (.putfield 11, 3) := by decide +kernel
theorem dX3_init_13 : decode cX3_init 13 = .ok (.return_, 1) := by decide +kernel
theorem dX3_append_0 : decode cX3_append 0 = .ok (.aload_n 0, 1) := by decide +kernel
theorem dX3_append_1 : decode cX3_append 1 = .ok (.getfield 15, 3) := by decide +kernel
theorem dX3_append_4 : decode cX3_append 4 = .ok (.sipush 200, 3) := by decide +kernel
theorem dX3_append_7 : decode cX3_append 7 = .ok (.if_icmp .ge 23, 3) := by decide +kernel
theorem dX3_append_10 : decode cX3_append 10 = .ok (.aload_n 0, 1) := by decide +kernel
theorem dX3_append_11 : decode cX3_append 11 = .ok (.getfield 11, 3) := by decide +kernel
theorem dX3_append_14 : decode cX3_append 14 = .ok (.aload_n 0, 1) := by decide +kernel
theorem dX3_append_15 : decode cX3_append 15 = .ok (.getfield 15, 3) := by decide +kernel
theorem dX3_append_18 : decode cX3_append 18 = .ok (.iload_n 1, 1) := by decide +kernel
theorem dX3_append_19 : decode cX3_append 19 = .ok (.iastore, 1) := by decide +kernel
theorem dX3_append_20 : decode cX3_append 20 = .ok (.aload_n 0, 1) := by decide +kernel
theorem dX3_append_21 : decode cX3_append 21 = .ok (.dup, 1) := by decide +kernel
theorem dX3_append_22 : decode cX3_append 22 = .ok (.getfield 15, 3) := by decide +kernel
theorem dX3_append_25 : decode cX3_append 25 = .ok (.iconst 1, 1) := by decide +kernel
theorem dX3_append_26 : decode cX3_append 26 = .ok (.iadd, 1) := by decide +kernel
theorem dX3_append_27 : decode cX3_append 27 = .ok (.putfield 15, 3) := by decide +kernel
theorem dX3_append_30 : decode cX3_append 30 = .ok (.return_, 1) := by decide +kernel
theorem dX3_readInto_0 : decode cX3_readInto 0 = .ok (.aload_n 1, 1) := by decide +kernel
theorem dX3_readInto_1 : decode cX3_readInto 1 = .ok (.invokevirtual 19, 3) := by decide +kernel
theorem dX3_readInto_4 : decode cX3_readInto 4 = .ok (.aload_n 0, 1) := by decide +kernel
theorem dX3_readInto_5 : decode cX3_readInto 5 = .ok (.iconst 0, 1) := by decide +kernel
theorem dX3_readInto_6 : decode cX3_readInto 6 = .ok (.putfield 24, 3) := by decide +kernel
theorem dX3_readInto_9 : decode cX3_readInto 9 = .ok (.aload_n 0, 1) := by decide +kernel
theorem dX3_readInto_10 : decode cX3_readInto 10 = .ok (.iconst 0, 1) := by decide +kernel
theorem dX3_readInto_11 : decode cX3_readInto 11 = .ok (.putfield 27, 3) := by decide +kernel
theorem dX3_readInto_14 : decode cX3_readInto 14 = .ok (.aload_n 0, 1) := by decide +kernel
theorem dX3_readInto_15 : decode cX3_readInto 15 = .ok (.invokevirtual 30, 3) := by decide +kernel
theorem dX3_readInto_18 : decode cX3_readInto 18 = .ok (.iconst 0, 1) := by decide +kernel
theorem dX3_readInto_19 : decode cX3_readInto 19 = .ok (.istore_n 2, 1) := by decide +kernel
theorem dX3_readInto_20 : decode cX3_readInto 20 = .ok (.iload_n 2, 1) := by decide +kernel
theorem dX3_readInto_21 : decode cX3_readInto 21 = .ok (.iconst 4, 1) := by decide +kernel
theorem dX3_readInto_22 : decode cX3_readInto 22 = .ok (.if_icmp .gt 35, 3) := by decide +kernel
theorem dX3_readInto_25 : decode cX3_readInto 25 = .ok (.aload_n 0, 1) := by decide +kernel
theorem dX3_readInto_26 : decode cX3_readInto 26 = .ok (.getfield 33, 3) := by decide +kernel
theorem dX3_readInto_29 : decode cX3_readInto 29 = .ok (.ifCond .eq 28, 3) := by decide +kernel
theorem dX3_readInto_32 : decode cX3_readInto 32 = .ok (.aload_n 0, 1) := by decide +kernel
theorem dX3_readInto_33 : decode cX3_readInto 33 = .ok (.aload_n 1, 1) := by decide +kernel
theorem dX3_readInto_34 : decode cX3_readInto 34 = .ok (.getfield 36, 3) := by decide +kernel
theorem dX3_readInto_37 : decode cX3_readInto 37 = .ok (.invokevirtual 39, 3) := by decide +kernel
theorem dX3_readInto_40 : decode cX3_readInto 40 = .ok (.ifCond .ne 11, 3) := by decide +kernel
theorem dX3_readInto_43 : decode cX3_readInto 43 = .ok (.bipush (-10), 2) := by decide +kernel
theorem dX3_readInto_45 : decode cX3_readInto 45 = .ok (.aload_n 0, 1) := by decide +kernel
theorem dX3_readInto_46 : decode cX3_readInto 46 = .ok (.getfield 43, 3) := by decide +kernel
theorem dX3_readInto_49 : decode cX3_readInto 49 = .ok (.isub, 1) := by decide +kernel
theorem dX3_readInto_50 : decode cX3_readInto 50 = .ok (.ireturn, 1) := by decide +kernel
theorem dX3_readInto_51 : decode cX3_readInto 51 = .ok (.iinc 2 1, 3) := by decide +kernel
theorem dX3_readInto_54 : decode cX3_readInto 54 = .ok (.goto (-34), 3) := by decide +kernel
theorem dX3_readInto_57 : decode cX3_readInto 57 = .ok (.iload_n 2, 1) := by decide +kernel
theorem dX3_readInto_58 : decode cX3_readInto 58 = .ok (.ireturn, 1) := by decide +kernel
theorem dX3_item_0 : decode cX3_item 0 = .ok (.aload_n 0, 1) := by decide +kernel
theorem dX3_item_1 : decode cX3_item 1 = .ok (.getfield 33, 3) := by decide +kernel
theorem dX3_item_4 : decode cX3_item 4 = .ok (.istore_n 2, 1) := by decide +kernel
theorem dX3_item_5 : decode cX3_item 5 = .ok (.iload_n 2, 1) := by decide +kernel
theorem dX3_item_6 : decode cX3_item 6 = .ok (.iconst 5, 1) := by decide +kernel
theorem dX3_item_7 : decode cX3_item 7 = .ok (.if_icmp .lt 20, 3) := by decide +kernel
theorem dX3_item_10 : decode cX3_item 10 = .ok (.iload_n 2, 1) := by decide +kernel
theorem dX3_item_11 : decode cX3_item 11 = .ok (.bipush 6, 2) := by decide +kernel
theorem dX3_item_13 : decode cX3_item 13 = .ok (.if_icmp .eq 14, 3) := by decide +kernel
theorem dX3_item_16 : decode cX3_item 16 = .ok (.aload_n 0, 1) := by decide +kernel
theorem dX3_item_17 : decode cX3_item 17 = .ok (.getfield 27, 3) := by decide +kernel
theorem dX3_item_20 : decode cX3_item 20 = .ok (.iload_n 2, 1) := by decide +kernel
theorem dX3_item_21 : decode cX3_item 21 = .ok (.invokestatic 46, 3) := by decide +kernel
theorem dX3_item_24 : decode cX3_item 24 = .ok (.ifCond .eq 5, 3) := by decide +kernel
theorem dX3_item_27 : decode cX3_item 27 = .ok (.iconst 0, 1) := by decide +kernel
theorem dX3_item_28 : decode cX3_item 28 = .ok (.ireturn, 1) := by decide +kernel
theorem dX3_item_29 : decode cX3_item 29 = .ok (.aload_n 0, 1) := by decide +kernel
theorem dX3_item_30 : decode cX3_item 30 = .ok (.dup, 1) := by decide +kernel
theorem dX3_item_31 : decode cX3_item 31 = .ok (.getfield 27, 3) := by decide +kernel
theorem dX3_item_34 : decode cX3_item 34 = .ok (.iconst 1, 1) := by decide +kernel
theorem dX3_item_35 : decode cX3_item 35 = .ok (.iload_n 2, 1) := by decide +kernel
theorem dX3_item_36 : decode cX3_item 36 = .ok (.ishl, 1) := by decide +kernel
theorem dX3_item_37 : decode cX3_item 37 = .ok (.ior, 1) := by decide +kernel
theorem dX3_item_38 : decode cX3_item 38 = .ok (.putfield 27, 3) := by decide +kernel
theorem dX3_item_41 : decode cX3_item 41 = .ok (.aload_n 0, 1) := by decide +kernel
theorem dX3_item_42 : decode cX3_item 42 = .ok (.invokevirtual 30, 3) := by decide +kernel
theorem dX3_item_45 : decode cX3_item 45 = .ok (.iload_n 2, 1) := by decide +kernel
theorem dX3_item_46 : decode cX3_item 46 = .ok (.tableswitch 131 5 8 #[30, 131, 74, 117], 30) := by decide +kernel
theorem dX3_item_76 : decode cX3_item 76 = .ok (.aload_n 0, 1) := by decide +kernel
theorem dX3_item_77 : decode cX3_item 77 = .ok (.aload_n 1, 1) := by decide +kernel
theorem dX3_item_78 : decode cX3_item 78 = .ok (.iconst 0, 1) := by decide +kernel
theorem dX3_item_79 : decode cX3_item 79 = .ok (.iconst 1, 1) := by decide +kernel
theorem dX3_item_80 : decode cX3_item 80 = .ok (.bipush 12, 2) := by decide +kernel
theorem dX3_item_82 : decode cX3_item 82 = .ok (.invokevirtual 50, 3) := by decide +kernel
theorem dX3_item_85 : decode cX3_item 85 = .ok (.ifCond .eq 30, 3) := by decide +kernel
theorem dX3_item_88 : decode cX3_item 88 = .ok (.aload_n 0, 1) := by decide +kernel
theorem dX3_item_89 : decode cX3_item 89 = .ok (.bipush 6, 2) := by decide +kernel
theorem dX3_item_91 : decode cX3_item 91 = .ok (.invokevirtual 54, 3) := by decide +kernel
theorem dX3_item_94 : decode cX3_item 94 = .ok (.ifCond .eq 21, 3) := by decide +kernel
theorem dX3_item_97 : decode cX3_item 97 = .ok (.aload_n 0, 1) := by decide +kernel
theorem dX3_item_98 : decode cX3_item 98 = .ok (.aload_n 1, 1) := by decide +kernel
theorem dX3_item_99 : decode cX3_item 99 = .ok (.iconst 1, 1) := by decide +kernel
theorem dX3_item_100 : decode cX3_item 100 = .ok (.aload_n 1, 1) := by decide +kernel
theorem dX3_item_101 : decode cX3_item 101 = .ok (.iconst 0, 1) := by decide +kernel
theorem dX3_item_102 : decode cX3_item 102 = .ok (.iaload, 1) := by decide +kernel
theorem dX3_item_103 : decode cX3_item 103 = .ok (.bipush 12, 2) := by decide +kernel
theorem dX3_item_105 : decode cX3_item 105 = .ok (.invokevirtual 50, 3) := by decide +kernel
theorem dX3_item_108 : decode cX3_item 108 = .ok (.ifCond .eq 7, 3) := by decide +kernel
theorem dX3_item_111 : decode cX3_item 111 = .ok (.iconst 1, 1) := by decide +kernel
theorem dX3_item_112 : decode cX3_item 112 = .ok (.goto 4, 3) := by decide +kernel
theorem dX3_item_115 : decode cX3_item 115 = .ok (.iconst 0, 1) := by decide +kernel
theorem dX3_item_116 : decode cX3_item 116 = .ok (.istore_n 3, 1) := by decide +kernel
theorem dX3_item_117 : decode cX3_item 117 = .ok (.goto 71, 3) := by decide +kernel
theorem dX3_item_120 : decode cX3_item 120 = .ok (.aload_n 0, 1) := by decide +kernel
theorem dX3_item_121 : decode cX3_item 121 = .ok (.aload_n 1, 1) := by decide +kernel
theorem dX3_item_122 : decode cX3_item 122 = .ok (.iconst 2, 1) := by decide +kernel
theorem dX3_item_123 : decode cX3_item 123 = .ok (.iconst 1, 1) := by decide +kernel
theorem dX3_item_124 : decode cX3_item 124 = .ok (.bipush 20, 2) := by decide +kernel
theorem dX3_item_126 : decode cX3_item 126 = .ok (.invokevirtual 50, 3) := by decide +kernel
theorem dX3_item_129 : decode cX3_item 129 = .ok (.ifCond .eq 29, 3) := by decide +kernel
theorem dX3_item_132 : decode cX3_item 132 = .ok (.aload_n 0, 1) := by decide +kernel
theorem dX3_item_133 : decode cX3_item 133 = .ok (.iconst 3, 1) := by decide +kernel
theorem dX3_item_134 : decode cX3_item 134 = .ok (.invokevirtual 54, 3) := by decide +kernel
theorem dX3_item_137 : decode cX3_item 137 = .ok (.ifCond .eq 21, 3) := by decide +kernel
theorem dX3_item_140 : decode cX3_item 140 = .ok (.aload_n 0, 1) := by decide +kernel
theorem dX3_item_141 : decode cX3_item 141 = .ok (.aload_n 1, 1) := by decide +kernel
theorem dX3_item_142 : decode cX3_item 142 = .ok (.iconst 3, 1) := by decide +kernel
theorem dX3_item_143 : decode cX3_item 143 = .ok (.aload_n 1, 1) := by decide +kernel
theorem dX3_item_144 : decode cX3_item 144 = .ok (.iconst 2, 1) := by decide +kernel
theorem dX3_item_145 : decode cX3_item 145 = .ok (.iaload, 1) := by decide +kernel
theorem dX3_item_146 : decode cX3_item 146 = .ok (.bipush 20, 2) := by decide +kernel
theorem dX3_item_148 : decode cX3_item 148 = .ok (.invokevirtual 50, 3) := by decide +kernel
theorem dX3_item_151 : decode cX3_item 151 = .ok (.ifCond .eq 7, 3) := by decide +kernel
theorem dX3_item_154 : decode cX3_item 154 = .ok (.iconst 1, 1) := by decide +kernel
theorem dX3_item_155 : decode cX3_item 155 = .ok (.goto 4, 3) := by decide +kernel
theorem dX3_item_158 : decode cX3_item 158 = .ok (.iconst 0, 1) := by decide +kernel
theorem dX3_item_159 : decode cX3_item 159 = .ok (.istore_n 3, 1) := by decide +kernel
theorem dX3_item_160 : decode cX3_item 160 = .ok (.goto 28, 3) := by decide +kernel
theorem dX3_item_163 : decode cX3_item 163 = .ok (.aload_n 0, 1) := by decide +kernel
theorem dX3_item_164 : decode cX3_item 164 = .ok (.aload_n 1, 1) := by decide +kernel
theorem dX3_item_165 : decode cX3_item 165 = .ok (.iconst 4, 1) := by decide +kernel
theorem dX3_item_166 : decode cX3_item 166 = .ok (.iconst 0, 1) := by decide +kernel
theorem dX3_item_167 : decode cX3_item 167 = .ok (.sipush 200, 3) := by decide +kernel
theorem dX3_item_170 : decode cX3_item 170 = .ok (.invokevirtual 50, 3) := by decide +kernel
theorem dX3_item_173 : decode cX3_item 173 = .ok (.istore_n 3, 1) := by decide +kernel
theorem dX3_item_174 : decode cX3_item 174 = .ok (.goto 14, 3) := by decide +kernel
theorem dX3_item_177 : decode cX3_item 177 = .ok (.aload_n 0, 1) := by decide +kernel
theorem dX3_item_178 : decode cX3_item 178 = .ok (.aload_n 1, 1) := by decide +kernel
theorem dX3_item_179 : decode cX3_item 179 = .ok (.iconst 5, 1) := by decide +kernel
theorem dX3_item_180 : decode cX3_item 180 = .ok (.iconst 0, 1) := by decide +kernel
theorem dX3_item_181 : decode cX3_item 181 = .ok (.sipush 200, 3) := by decide +kernel
theorem dX3_item_184 : decode cX3_item 184 = .ok (.invokevirtual 50, 3) := by decide +kernel
theorem dX3_item_187 : decode cX3_item 187 = .ok (.istore_n 3, 1) := by decide +kernel
theorem dX3_item_188 : decode cX3_item 188 = .ok (.iload_n 3, 1) := by decide +kernel
theorem dX3_item_189 : decode cX3_item 189 = .ok (.ifCond .eq 15, 3) := by decide +kernel
theorem dX3_item_192 : decode cX3_item 192 = .ok (.aload_n 0, 1) := by decide +kernel
theorem dX3_item_193 : decode cX3_item 193 = .ok (.iconst 4, 1) := by decide +kernel
theorem dX3_item_194 : decode cX3_item 194 = .ok (.invokevirtual 54, 3) := by decide +kernel
theorem dX3_item_197 : decode cX3_item 197 = .ok (.ifCond .eq 7, 3) := by decide +kernel
theorem dX3_item_200 : decode cX3_item 200 = .ok (.iconst 1, 1) := by decide +kernel
theorem dX3_item_201 : decode cX3_item 201 = .ok (.goto 4, 3) := by decide +kernel
theorem dX3_item_204 : decode cX3_item 204 = .ok (.iconst 0, 1) := by decide +kernel
theorem dX3_item_205 : decode cX3_item 205 = .ok (.ireturn, 1) := by decide +kernel
theorem dX3_sign_0 : decode cX3_sign 0 = .ok (.aload_n 0, 1) := by decide +kernel
theorem dX3_sign_1 : decode cX3_sign 1 = .ok (.getfield 33, 3) := by decide +kernel
theorem dX3_sign_4 : decode cX3_sign 4 = .ok (.iload_n 1, 1) := by decide +kernel
theorem dX3_sign_5 : decode cX3_sign 5 = .ok (.if_icmp .eq 5, 3) := by decide +kernel
theorem dX3_sign_8 : decode cX3_sign 8 = .ok (.iconst 0, 1) := by decide +kernel
theorem dX3_sign_9 : decode cX3_sign 9 = .ok (.ireturn, 1) := by decide +kernel
theorem dX3_sign_10 : decode cX3_sign 10 = .ok (.aload_n 0, 1) := by decide +kernel
theorem dX3_sign_11 : decode cX3_sign 11 = .ok (.invokevirtual 30, 3) := by decide +kernel
theorem dX3_sign_14 : decode cX3_sign 14 = .ok (.iconst 1, 1) := by decide +kernel
theorem dX3_sign_15 : decode cX3_sign 15 = .ok (.ireturn, 1) := by decide +kernel
theorem dX3_numeral_0 : decode cX3_numeral 0 = .ok (.aload_n 0, 1) := by decide +kernel
theorem dX3_numeral_1 : decode cX3_numeral 1 = .ok (.getfield 33, 3) := by decide +kernel
theorem dX3_numeral_4 : decode cX3_numeral 4 = .ok (.iconst 2, 1) := by decide +kernel
theorem dX3_numeral_5 : decode cX3_numeral 5 = .ok (.if_icmp .ne 16, 3) := by decide +kernel
theorem dX3_numeral_8 : decode cX3_numeral 8 = .ok (.aload_n 0, 1) := by decide +kernel
theorem dX3_numeral_9 : decode cX3_numeral 9 = .ok (.getfield 58, 3) := by decide +kernel
theorem dX3_numeral_12 : decode cX3_numeral 12 = .ok (.iload_n 3, 1) := by decide +kernel
theorem dX3_numeral_13 : decode cX3_numeral 13 = .ok (.iload 4, 2) := by decide +kernel
theorem dX3_numeral_15 : decode cX3_numeral 15 = .ok (.invokestatic 61, 3) := by decide +kernel
theorem dX3_numeral_18 : decode cX3_numeral 18 = .ok (.ifCond .ne 5, 3) := by decide +kernel
theorem dX3_numeral_21 : decode cX3_numeral 21 = .ok (.iconst 0, 1) := by decide +kernel
theorem dX3_numeral_22 : decode cX3_numeral 22 = .ok (.ireturn, 1) := by decide +kernel
theorem dX3_numeral_23 : decode cX3_numeral 23 = .ok (.aload_n 1, 1) := by decide +kernel
theorem dX3_numeral_24 : decode cX3_numeral 24 = .ok (.iload_n 2, 1) := by decide +kernel
theorem dX3_numeral_25 : decode cX3_numeral 25 = .ok (.aload_n 0, 1) := by decide +kernel
theorem dX3_numeral_26 : decode cX3_numeral 26 = .ok (.getfield 58, 3) := by decide +kernel
theorem dX3_numeral_29 : decode cX3_numeral 29 = .ok (.iastore, 1) := by decide +kernel
theorem dX3_numeral_30 : decode cX3_numeral 30 = .ok (.aload_n 0, 1) := by decide +kernel
theorem dX3_numeral_31 : decode cX3_numeral 31 = .ok (.invokevirtual 30, 3) := by decide +kernel
theorem dX3_numeral_34 : decode cX3_numeral 34 = .ok (.iconst 1, 1) := by decide +kernel
theorem dX3_numeral_35 : decode cX3_numeral 35 = .ok (.ireturn, 1) := by decide +kernel
theorem dX3_next_0 : decode cX3_next 0 = .ok (.aload_n 0, 1) := by decide +kernel
theorem dX3_next_1 : decode cX3_next 1 = .ok (.getfield 24, 3) := by decide +kernel
theorem dX3_next_4 : decode cX3_next 4 = .ok (.aload_n 0, 1) := by decide +kernel
theorem dX3_next_5 : decode cX3_next 5 = .ok (.getfield 15, 3) := by decide +kernel
theorem dX3_next_8 : decode cX3_next 8 = .ok (.if_icmp .ge 30, 3) := by decide +kernel
theorem dX3_next_11 : decode cX3_next 11 = .ok (.aload_n 0, 1) := by decide +kernel
theorem dX3_next_12 : decode cX3_next 12 = .ok (.getfield 11, 3) := by decide +kernel
theorem dX3_next_15 : decode cX3_next 15 = .ok (.aload_n 0, 1) := by decide +kernel
theorem dX3_next_16 : decode cX3_next 16 = .ok (.getfield 24, 3) := by decide +kernel
theorem dX3_next_19 : decode cX3_next 19 = .ok (.iaload, 1) := by decide +kernel
theorem dX3_next_20 : decode cX3_next 20 = .ok (.bipush 32, 2) := by decide +kernel
theorem dX3_next_22 : decode cX3_next 22 = .ok (.if_icmp .ne 16, 3) := by decide +kernel
theorem dX3_next_25 : decode cX3_next 25 = .ok (.aload_n 0, 1) := by decide +kernel
theorem dX3_next_26 : decode cX3_next 26 = .ok (.dup, 1) := by decide +kernel
theorem dX3_next_27 : decode cX3_next 27 = .ok (.getfield 24, 3) := by decide +kernel
theorem dX3_next_30 : decode cX3_next 30 = .ok (.iconst 1, 1) := by decide +kernel
theorem dX3_next_31 : decode cX3_next 31 = .ok (.iadd, 1) := by decide +kernel
theorem dX3_next_32 : decode cX3_next 32 = .ok (.putfield 24, 3) := by decide +kernel
theorem dX3_next_35 : decode cX3_next 35 = .ok (.goto (-35), 3) := by decide +kernel
theorem dX3_next_38 : decode cX3_next 38 = .ok (.aload_n 0, 1) := by decide +kernel
theorem dX3_next_39 : decode cX3_next 39 = .ok (.aload_n 0, 1) := by decide +kernel
theorem dX3_next_40 : decode cX3_next 40 = .ok (.getfield 24, 3) := by decide +kernel
theorem dX3_next_43 : decode cX3_next 43 = .ok (.putfield 43, 3) := by decide +kernel
theorem dX3_next_46 : decode cX3_next 46 = .ok (.aload_n 0, 1) := by decide +kernel
theorem dX3_next_47 : decode cX3_next 47 = .ok (.getfield 24, 3) := by decide +kernel
theorem dX3_next_50 : decode cX3_next 50 = .ok (.aload_n 0, 1) := by decide +kernel
theorem dX3_next_51 : decode cX3_next 51 = .ok (.getfield 15, 3) := by decide +kernel
theorem dX3_next_54 : decode cX3_next 54 = .ok (.if_icmp .lt 11, 3) := by decide +kernel
theorem dX3_next_57 : decode cX3_next 57 = .ok (.aload_n 0, 1) := by decide +kernel
theorem dX3_next_58 : decode cX3_next 58 = .ok (.iconst 0, 1) := by decide +kernel
theorem dX3_next_59 : decode cX3_next 59 = .ok (.putfield 33, 3) := by decide +kernel
theorem dX3_next_62 : decode cX3_next 62 = .ok (.goto 106, 3) := by decide +kernel
theorem dX3_next_65 : decode cX3_next 65 = .ok (.aload_n 0, 1) := by decide +kernel
theorem dX3_next_66 : decode cX3_next 66 = .ok (.getfield 11, 3) := by decide +kernel
theorem dX3_next_69 : decode cX3_next 69 = .ok (.aload_n 0, 1) := by decide +kernel
theorem dX3_next_70 : decode cX3_next 70 = .ok (.getfield 24, 3) := by decide +kernel
theorem dX3_next_73 : decode cX3_next 73 = .ok (.iaload, 1) := by decide +kernel
theorem dX3_next_74 : decode cX3_next 74 = .ok (.invokestatic 65, 3) := by decide +kernel
theorem dX3_next_77 : decode cX3_next 77 = .ok (.ifCond .eq 14, 3) := by decide +kernel
theorem dX3_next_80 : decode cX3_next 80 = .ok (.aload_n 0, 1) := by decide +kernel
theorem dX3_next_81 : decode cX3_next 81 = .ok (.aload_n 0, 1) := by decide +kernel
theorem dX3_next_82 : decode cX3_next 82 = .ok (.invokevirtual 68, 3) := by decide +kernel
theorem dX3_next_85 : decode cX3_next 85 = .ok (.putfield 33, 3) := by decide +kernel
theorem dX3_next_88 : decode cX3_next 88 = .ok (.goto 80, 3) := by decide +kernel
theorem dX3_next_91 : decode cX3_next 91 = .ok (.aload_n 0, 1) := by decide +kernel
theorem dX3_next_92 : decode cX3_next 92 = .ok (.getfield 11, 3) := by decide +kernel
theorem dX3_next_95 : decode cX3_next 95 = .ok (.aload_n 0, 1) := by decide +kernel
theorem dX3_next_96 : decode cX3_next 96 = .ok (.getfield 24, 3) := by decide +kernel
theorem dX3_next_99 : decode cX3_next 99 = .ok (.iaload, 1) := by decide +kernel
theorem dX3_next_100 : decode cX3_next 100 = .ok (.invokestatic 72, 3) := by decide +kernel
theorem dX3_next_103 : decode cX3_next 103 = .ok (.ifCond .eq 14, 3) := by decide +kernel
theorem dX3_next_106 : decode cX3_next 106 = .ok (.aload_n 0, 1) := by decide +kernel
theorem dX3_next_107 : decode cX3_next 107 = .ok (.aload_n 0, 1) := by decide +kernel
theorem dX3_next_108 : decode cX3_next 108 = .ok (.invokevirtual 75, 3) := by decide +kernel
theorem dX3_next_111 : decode cX3_next 111 = .ok (.putfield 33, 3) := by decide +kernel
theorem dX3_next_114 : decode cX3_next 114 = .ok (.goto 54, 3) := by decide +kernel
theorem dX3_next_117 : decode cX3_next 117 = .ok (.aload_n 0, 1) := by decide +kernel
theorem dX3_next_118 : decode cX3_next 118 = .ok (.aload_n 0, 1) := by decide +kernel
theorem dX3_next_119 : decode cX3_next 119 = .ok (.getfield 11, 3) := by decide +kernel
theorem dX3_next_122 : decode cX3_next 122 = .ok (.aload_n 0, 1) := by decide +kernel
theorem dX3_next_123 : decode cX3_next 123 = .ok (.getfield 24, 3) := by decide +kernel
theorem dX3_next_126 : decode cX3_next 126 = .ok (.iaload, 1) := by decide +kernel
theorem dX3_next_127 : decode cX3_next 127 = .ok (.bipush 47, 2) := by decide +kernel
theorem dX3_next_129 : decode cX3_next 129 = .ok (.if_icmp .ne 7, 3) := by decide +kernel
theorem dX3_next_132 : decode cX3_next 132 = .ok (.iconst 3, 1) := by decide +kernel
theorem dX3_next_133 : decode cX3_next 133 = .ok (.goto 22, 3) := by decide +kernel
theorem dX3_next_136 : decode cX3_next 136 = .ok (.aload_n 0, 1) := by decide +kernel
theorem dX3_next_137 : decode cX3_next 137 = .ok (.getfield 11, 3) := by decide +kernel
theorem dX3_next_140 : decode cX3_next 140 = .ok (.aload_n 0, 1) := by decide +kernel
theorem dX3_next_141 : decode cX3_next 141 = .ok (.getfield 24, 3) := by decide +kernel
theorem dX3_next_144 : decode cX3_next 144 = .ok (.iaload, 1) := by decide +kernel
theorem dX3_next_145 : decode cX3_next 145 = .ok (.bipush 59, 2) := by decide +kernel
theorem dX3_next_147 : decode cX3_next 147 = .ok (.if_icmp .ne 7, 3) := by decide +kernel
theorem dX3_next_150 : decode cX3_next 150 = .ok (.iconst 4, 1) := by decide +kernel
theorem dX3_next_151 : decode cX3_next 151 = .ok (.goto 4, 3) := by decide +kernel
theorem dX3_next_154 : decode cX3_next 154 = .ok (.iconst 1, 1) := by decide +kernel
theorem dX3_next_155 : decode cX3_next 155 = .ok (.putfield 33, 3) := by decide +kernel
theorem dX3_next_158 : decode cX3_next 158 = .ok (.aload_n 0, 1) := by decide +kernel
theorem dX3_next_159 : decode cX3_next 159 = .ok (.dup, 1) := by decide +kernel
theorem dX3_next_160 : decode cX3_next 160 = .ok (.getfield 24, 3) := by decide +kernel
theorem dX3_next_163 : decode cX3_next 163 = .ok (.iconst 1, 1) := by decide +kernel
theorem dX3_next_164 : decode cX3_next 164 = .ok (.iadd, 1) := by decide +kernel
theorem dX3_next_165 : decode cX3_next 165 = .ok (.putfield 24, 3) := by decide +kernel
theorem dX3_next_168 : decode cX3_next 168 = .ok (.return_, 1) := by decide +kernel
theorem dX3_wordToken_0 : decode cX3_wordToken 0 = .ok (.iconst 0, 1) := by decide +kernel
theorem dX3_wordToken_1 : decode cX3_wordToken 1 = .ok (.istore_n 1, 1) := by decide +kernel
theorem dX3_wordToken_2 : decode cX3_wordToken 2 = .ok (.aload_n 0, 1) := by decide +kernel
theorem dX3_wordToken_3 : decode cX3_wordToken 3 = .ok (.getfield 24, 3) := by decide +kernel
theorem dX3_wordToken_6 : decode cX3_wordToken 6 = .ok (.aload_n 0, 1) := by decide +kernel
theorem dX3_wordToken_7 : decode cX3_wordToken 7 = .ok (.getfield 15, 3) := by decide +kernel
theorem dX3_wordToken_10 : decode cX3_wordToken 10 = .ok (.if_icmp .ge 46, 3) := by decide +kernel
theorem dX3_wordToken_13 : decode cX3_wordToken 13 = .ok (.aload_n 0, 1) := by decide +kernel
theorem dX3_wordToken_14 : decode cX3_wordToken 14 = .ok (.getfield 11, 3) := by decide +kernel
theorem dX3_wordToken_17 : decode cX3_wordToken 17 = .ok (.aload_n 0, 1) := by decide +kernel
theorem dX3_wordToken_18 : decode cX3_wordToken 18 = .ok (.getfield 24, 3) := by decide +kernel
theorem dX3_wordToken_21 : decode cX3_wordToken 21 = .ok (.iaload, 1) := by decide +kernel
theorem dX3_wordToken_22 : decode cX3_wordToken 22 = .ok (.invokestatic 65, 3) := by decide +kernel
theorem dX3_wordToken_25 : decode cX3_wordToken 25 = .ok (.ifCond .eq 31, 3) := by decide +kernel
theorem dX3_wordToken_28 : decode cX3_wordToken 28 = .ok (.iload_n 1, 1) := by decide +kernel
theorem dX3_wordToken_29 : decode cX3_wordToken 29 = .ok (.bipush 8, 2) := by decide +kernel
theorem dX3_wordToken_31 : decode cX3_wordToken 31 = .ok (.ishl, 1) := by decide +kernel
theorem dX3_wordToken_32 : decode cX3_wordToken 32 = .ok (.aload_n 0, 1) := by decide +kernel
theorem dX3_wordToken_33 : decode cX3_wordToken 33 = .ok (.getfield 11, 3) := by decide +kernel
theorem dX3_wordToken_36 : decode cX3_wordToken 36 = .ok (.aload_n 0, 1) := by decide +kernel
theorem dX3_wordToken_37 : decode cX3_wordToken 37 = .ok (.getfield 24, 3) := by decide +kernel
theorem dX3_wordToken_40 : decode cX3_wordToken 40 = .ok (.iaload, 1) := by decide +kernel
theorem dX3_wordToken_41 : decode cX3_wordToken 41 = .ok (.ior, 1) := by decide +kernel
theorem dX3_wordToken_42 : decode cX3_wordToken 42 = .ok (.istore_n 1, 1) := by decide +kernel
theorem dX3_wordToken_43 : decode cX3_wordToken 43 = .ok (.aload_n 0, 1) := by decide +kernel
theorem dX3_wordToken_44 : decode cX3_wordToken 44 = .ok (.dup, 1) := by decide +kernel
theorem dX3_wordToken_45 : decode cX3_wordToken 45 = .ok (.getfield 24, 3) := by decide +kernel
theorem dX3_wordToken_48 : decode cX3_wordToken 48 = .ok (.iconst 1, 1) := by decide +kernel
theorem dX3_wordToken_49 : decode cX3_wordToken 49 = .ok (.iadd, 1) := by decide +kernel
theorem dX3_wordToken_50 : decode cX3_wordToken 50 = .ok (.putfield 24, 3) := by decide +kernel
theorem dX3_wordToken_53 : decode cX3_wordToken 53 = .ok (.goto (-51), 3) := by decide +kernel
theorem dX3_wordToken_56 : decode cX3_wordToken 56 = .ok (.aload_n 0, 1) := by decide +kernel
theorem dX3_wordToken_57 : decode cX3_wordToken 57 = .ok (.getfield 24, 3) := by decide +kernel
theorem dX3_wordToken_60 : decode cX3_wordToken 60 = .ok (.aload_n 0, 1) := by decide +kernel
theorem dX3_wordToken_61 : decode cX3_wordToken 61 = .ok (.getfield 43, 3) := by decide +kernel
theorem dX3_wordToken_64 : decode cX3_wordToken 64 = .ok (.isub, 1) := by decide +kernel
theorem dX3_wordToken_65 : decode cX3_wordToken 65 = .ok (.iconst 4, 1) := by decide +kernel
theorem dX3_wordToken_66 : decode cX3_wordToken 66 = .ok (.if_icmp .le 5, 3) := by decide +kernel
theorem dX3_wordToken_69 : decode cX3_wordToken 69 = .ok (.iconst 1, 1) := by decide +kernel
theorem dX3_wordToken_70 : decode cX3_wordToken 70 = .ok (.ireturn, 1) := by decide +kernel
theorem dX3_wordToken_71 : decode cX3_wordToken 71 = .ok (.iload_n 1, 1) := by decide +kernel
theorem dX3_wordToken_72 : decode cX3_wordToken 72 = .ok (.lookupswitch 66 #[(28518, 54), (6513008, 60), (1650815860, 52), (1836021349, 57), (1870030194, 63)], 52) := by decide +kernel
theorem dX3_wordToken_124 : decode cX3_wordToken 124 = .ok (.iconst 5, 1) := by decide +kernel
theorem dX3_wordToken_125 : decode cX3_wordToken 125 = .ok (.ireturn, 1) := by decide +kernel
theorem dX3_wordToken_126 : decode cX3_wordToken 126 = .ok (.bipush 6, 2) := by decide +kernel
theorem dX3_wordToken_128 : decode cX3_wordToken 128 = .ok (.ireturn, 1) := by decide +kernel
theorem dX3_wordToken_129 : decode cX3_wordToken 129 = .ok (.bipush 7, 2) := by decide +kernel
theorem dX3_wordToken_131 : decode cX3_wordToken 131 = .ok (.ireturn, 1) := by decide +kernel
theorem dX3_wordToken_132 : decode cX3_wordToken 132 = .ok (.bipush 8, 2) := by decide +kernel
theorem dX3_wordToken_134 : decode cX3_wordToken 134 = .ok (.ireturn, 1) := by decide +kernel
theorem dX3_wordToken_135 : decode cX3_wordToken 135 = .ok (.bipush 9, 2) := by decide +kernel
theorem dX3_wordToken_137 : decode cX3_wordToken 137 = .ok (.ireturn, 1) := by decide +kernel
theorem dX3_wordToken_138 : decode cX3_wordToken 138 = .ok (.iconst 1, 1) := by decide +kernel
theorem dX3_wordToken_139 : decode cX3_wordToken 139 = .ok (.ireturn, 1) := by decide +kernel
theorem dX3_numberToken_0 : decode cX3_numberToken 0 = .ok (.aload_n 0, 1) := by decide +kernel
theorem dX3_numberToken_1 : decode cX3_numberToken 1 = .ok (.iconst 0, 1) := by decide +kernel
theorem dX3_numberToken_2 : decode cX3_numberToken 2 = .ok (.putfield 58, 3) := by decide +kernel
theorem dX3_numberToken_5 : decode cX3_numberToken 5 = .ok (.aload_n 0, 1) := by decide +kernel
theorem dX3_numberToken_6 : decode cX3_numberToken 6 = .ok (.getfield 24, 3) := by decide +kernel
theorem dX3_numberToken_9 : decode cX3_numberToken 9 = .ok (.aload_n 0, 1) := by decide +kernel
theorem dX3_numberToken_10 : decode cX3_numberToken 10 = .ok (.getfield 15, 3) := by decide +kernel
theorem dX3_numberToken_13 : decode cX3_numberToken 13 = .ok (.if_icmp .ge 61, 3) := by decide +kernel
theorem dX3_numberToken_16 : decode cX3_numberToken 16 = .ok (.aload_n 0, 1) := by decide +kernel
theorem dX3_numberToken_17 : decode cX3_numberToken 17 = .ok (.getfield 11, 3) := by decide +kernel
theorem dX3_numberToken_20 : decode cX3_numberToken 20 = .ok (.aload_n 0, 1) := by decide +kernel
theorem dX3_numberToken_21 : decode cX3_numberToken 21 = .ok (.getfield 24, 3) := by decide +kernel
theorem dX3_numberToken_24 : decode cX3_numberToken 24 = .ok (.iaload, 1) := by decide +kernel
theorem dX3_numberToken_25 : decode cX3_numberToken 25 = .ok (.invokestatic 72, 3) := by decide +kernel
theorem dX3_numberToken_28 : decode cX3_numberToken 28 = .ok (.ifCond .eq 46, 3) := by decide +kernel
theorem dX3_numberToken_31 : decode cX3_numberToken 31 = .ok (.aload_n 0, 1) := by decide +kernel
theorem dX3_numberToken_32 : decode cX3_numberToken 32 = .ok (.sipush 1000, 3) := by decide +kernel
theorem dX3_numberToken_35 : decode cX3_numberToken 35 = .ok (.bipush 10, 2) := by decide +kernel
theorem dX3_numberToken_37 : decode cX3_numberToken 37 = .ok (.aload_n 0, 1) := by decide +kernel
theorem dX3_numberToken_38 : decode cX3_numberToken 38 = .ok (.getfield 58, 3) := by decide +kernel
theorem dX3_numberToken_41 : decode cX3_numberToken 41 = .ok (.imul, 1) := by decide +kernel
theorem dX3_numberToken_42 : decode cX3_numberToken 42 = .ok (.aload_n 0, 1) := by decide +kernel
theorem dX3_numberToken_43 : decode cX3_numberToken 43 = .ok (.getfield 11, 3) := by decide +kernel
theorem dX3_numberToken_46 : decode cX3_numberToken 46 = .ok (.aload_n 0, 1) := by decide +kernel
theorem dX3_numberToken_47 : decode cX3_numberToken 47 = .ok (.getfield 24, 3) := by decide +kernel
theorem dX3_numberToken_50 : decode cX3_numberToken 50 = .ok (.iaload, 1) := by decide +kernel
theorem dX3_numberToken_51 : decode cX3_numberToken 51 = .ok (.iadd, 1) := by decide +kernel
theorem dX3_numberToken_52 : decode cX3_numberToken 52 = .ok (.bipush 48, 2) := by decide +kernel
theorem dX3_numberToken_54 : decode cX3_numberToken 54 = .ok (.isub, 1) := by decide +kernel
theorem dX3_numberToken_55 : decode cX3_numberToken 55 = .ok (.invokestatic 78, 3) := by decide +kernel
theorem dX3_numberToken_58 : decode cX3_numberToken 58 = .ok (.putfield 58, 3) := by decide +kernel
theorem dX3_numberToken_61 : decode cX3_numberToken 61 = .ok (.aload_n 0, 1) := by decide +kernel
theorem dX3_numberToken_62 : decode cX3_numberToken 62 = .ok (.dup, 1) := by decide +kernel
theorem dX3_numberToken_63 : decode cX3_numberToken 63 = .ok (.getfield 24, 3) := by decide +kernel
theorem dX3_numberToken_66 : decode cX3_numberToken 66 = .ok (.iconst 1, 1) := by decide +kernel
theorem dX3_numberToken_67 : decode cX3_numberToken 67 = .ok (.iadd, 1) := by decide +kernel
theorem dX3_numberToken_68 : decode cX3_numberToken 68 = .ok (.putfield 24, 3) := by decide +kernel
theorem dX3_numberToken_71 : decode cX3_numberToken 71 = .ok (.goto (-66), 3) := by decide +kernel
theorem dX3_numberToken_74 : decode cX3_numberToken 74 = .ok (.aload_n 0, 1) := by decide +kernel
theorem dX3_numberToken_75 : decode cX3_numberToken 75 = .ok (.getfield 11, 3) := by decide +kernel
theorem dX3_numberToken_78 : decode cX3_numberToken 78 = .ok (.aload_n 0, 1) := by decide +kernel
theorem dX3_numberToken_79 : decode cX3_numberToken 79 = .ok (.getfield 43, 3) := by decide +kernel
theorem dX3_numberToken_82 : decode cX3_numberToken 82 = .ok (.iaload, 1) := by decide +kernel
theorem dX3_numberToken_83 : decode cX3_numberToken 83 = .ok (.bipush 48, 2) := by decide +kernel
theorem dX3_numberToken_85 : decode cX3_numberToken 85 = .ok (.if_icmp .ne 20, 3) := by decide +kernel
theorem dX3_numberToken_88 : decode cX3_numberToken 88 = .ok (.aload_n 0, 1) := by decide +kernel
theorem dX3_numberToken_89 : decode cX3_numberToken 89 = .ok (.getfield 24, 3) := by decide +kernel
theorem dX3_numberToken_92 : decode cX3_numberToken 92 = .ok (.aload_n 0, 1) := by decide +kernel
theorem dX3_numberToken_93 : decode cX3_numberToken 93 = .ok (.getfield 43, 3) := by decide +kernel
theorem dX3_numberToken_96 : decode cX3_numberToken 96 = .ok (.isub, 1) := by decide +kernel
theorem dX3_numberToken_97 : decode cX3_numberToken 97 = .ok (.iconst 1, 1) := by decide +kernel
theorem dX3_numberToken_98 : decode cX3_numberToken 98 = .ok (.if_icmp .le 7, 3) := by decide +kernel
theorem dX3_numberToken_101 : decode cX3_numberToken 101 = .ok (.iconst 1, 1) := by decide +kernel
theorem dX3_numberToken_102 : decode cX3_numberToken 102 = .ok (.goto 4, 3) := by decide +kernel
theorem dX3_numberToken_105 : decode cX3_numberToken 105 = .ok (.iconst 0, 1) := by decide +kernel
theorem dX3_numberToken_106 : decode cX3_numberToken 106 = .ok (.istore_n 1, 1) := by decide +kernel
theorem dX3_numberToken_107 : decode cX3_numberToken 107 = .ok (.iload_n 1, 1) := by decide +kernel
theorem dX3_numberToken_108 : decode cX3_numberToken 108 = .ok (.ifCond .ne 13, 3) := by decide +kernel
theorem dX3_numberToken_111 : decode cX3_numberToken 111 = .ok (.aload_n 0, 1) := by decide +kernel
theorem dX3_numberToken_112 : decode cX3_numberToken 112 = .ok (.getfield 58, 3) := by decide +kernel
theorem dX3_numberToken_115 : decode cX3_numberToken 115 = .ok (.sipush 999, 3) := by decide +kernel
theorem dX3_numberToken_118 : decode cX3_numberToken 118 = .ok (.if_icmp .le 7, 3) := by decide +kernel
theorem dX3_numberToken_121 : decode cX3_numberToken 121 = .ok (.iconst 1, 1) := by decide +kernel
theorem dX3_numberToken_122 : decode cX3_numberToken 122 = .ok (.goto 4, 3) := by decide +kernel
theorem dX3_numberToken_125 : decode cX3_numberToken 125 = .ok (.iconst 2, 1) := by decide +kernel
theorem dX3_numberToken_126 : decode cX3_numberToken 126 = .ok (.ireturn, 1) := by decide +kernel
theorem dX3_isLetter_0 : decode cX3_isLetter 0 = .ok (.iload_n 0, 1) := by decide +kernel
theorem dX3_isLetter_1 : decode cX3_isLetter 1 = .ok (.bipush 97, 2) := by decide +kernel
theorem dX3_isLetter_3 : decode cX3_isLetter 3 = .ok (.if_icmp .lt 13, 3) := by decide +kernel
theorem dX3_isLetter_6 : decode cX3_isLetter 6 = .ok (.iload_n 0, 1) := by decide +kernel
theorem dX3_isLetter_7 : decode cX3_isLetter 7 = .ok (.bipush 122, 2) := by decide +kernel
theorem dX3_isLetter_9 : decode cX3_isLetter 9 = .ok (.if_icmp .gt 7, 3) := by decide +kernel
theorem dX3_isLetter_12 : decode cX3_isLetter 12 = .ok (.iconst 1, 1) := by decide +kernel
theorem dX3_isLetter_13 : decode cX3_isLetter 13 = .ok (.goto 4, 3) := by decide +kernel
theorem dX3_isLetter_16 : decode cX3_isLetter 16 = .ok (.iconst 0, 1) := by decide +kernel
theorem dX3_isLetter_17 : decode cX3_isLetter 17 = .ok (.ireturn, 1) := by decide +kernel
theorem dX3_isDigit_0 : decode cX3_isDigit 0 = .ok (.iload_n 0, 1) := by decide +kernel
theorem dX3_isDigit_1 : decode cX3_isDigit 1 = .ok (.bipush 48, 2) := by decide +kernel
theorem dX3_isDigit_3 : decode cX3_isDigit 3 = .ok (.if_icmp .lt 13, 3) := by decide +kernel
theorem dX3_isDigit_6 : decode cX3_isDigit 6 = .ok (.iload_n 0, 1) := by decide +kernel
theorem dX3_isDigit_7 : decode cX3_isDigit 7 = .ok (.bipush 57, 2) := by decide +kernel
theorem dX3_isDigit_9 : decode cX3_isDigit 9 = .ok (.if_icmp .gt 7, 3) := by decide +kernel
theorem dX3_isDigit_12 : decode cX3_isDigit 12 = .ok (.iconst 1, 1) := by decide +kernel
theorem dX3_isDigit_13 : decode cX3_isDigit 13 = .ok (.goto 4, 3) := by decide +kernel
theorem dX3_isDigit_16 : decode cX3_isDigit 16 = .ok (.iconst 0, 1) := by decide +kernel
theorem dX3_isDigit_17 : decode cX3_isDigit 17 = .ok (.ireturn, 1) := by decide +kernel
theorem dX4_init_0 : decode cX4_init 0 = .ok (.aload_n 0, 1) := by decide +kernel
theorem dX4_init_1 : decode cX4_init 1 = .ok (.invokespecial 3, 3) := by decide +kernel
theorem dX4_init_4 : decode cX4_init 4 = .ok (.aload_n 0, 1) := by decide +kernel
theorem dX4_init_5 : decode cX4_init 5 = .ok (.iconst 3, 1) := by decide +kernel
theorem dX4_init_6 : decode cX4_init 6 = .ok (.newarray .int, 2) := by decide +kernel
theorem dX4_init_8 : decode cX4_init 8 = .ok (.putfield 9, 3) := by decide +kernel
theorem dX4_init_11 : decode cX4_init 11 = .ok (.aload_n 0, 1) := by decide +kernel
theorem dX4_init_12 : decode cX4_init 12 = .ok (.bipush 12, 2) := by decide +kernel
theorem dX4_init_14 : decode cX4_init 14 = .ok (.newarray .int, 2) := by decide +kernel
theorem dX4_init_16 : decode cX4_init 16 = .ok (.putfield 15, 3) := by decide +kernel
theorem dX4_init_19 : decode cX4_init 19 = .ok (.return_, 1) := by decide +kernel
theorem dX4_begin_0 : decode cX4_begin 0 = .ok (.aload_n 0, 1) := by decide +kernel
theorem dX4_begin_1 : decode cX4_begin 1 = .ok (.iload_n 1, 1) := by decide +kernel
theorem dX4_begin_2 : decode cX4_begin 2 = .ok (.putfield 18, 3) := by decide +kernel
theorem dX4_begin_5 : decode cX4_begin 5 = .ok (.aload_n 0, 1) := by decide +kernel
theorem dX4_begin_6 : decode cX4_begin 6 = .ok (.iload_n 1, 1) := by decide +kernel
theorem dX4_begin_7 : decode cX4_begin 7 = .ok (.putfield 22, 3) := by decide +kernel
theorem dX4_begin_10 : decode cX4_begin 10 = .ok (.aload_n 0, 1) := by decide +kernel
theorem dX4_begin_11 : decode cX4_begin 11 = .ok (.iconst 0, 1) := by decide +kernel
theorem dX4_begin_12 : decode cX4_begin 12 = .ok (.putfield 25, 3) := by decide +kernel
theorem dX4_begin_15 : decode cX4_begin 15 = .ok (.aload_n 0, 1) := by decide +kernel
theorem dX4_begin_16 : decode cX4_begin 16 = .ok (.iconst 0, 1) := by decide +kernel
theorem dX4_begin_17 : decode cX4_begin 17 = .ok (.putfield 28, 3) := by decide +kernel
theorem dX4_begin_20 : decode cX4_begin 20 = .ok (.aload_n 0, 1) := by decide +kernel
theorem dX4_begin_21 : decode cX4_begin 21 = .ok (.iconst 0, 1) := by decide +kernel
theorem dX4_begin_22 : decode cX4_begin 22 = .ok (.putfield 31, 3) := by decide +kernel
theorem dX4_begin_25 : decode cX4_begin 25 = .ok (.aload_n 0, 1) := by decide +kernel
theorem dX4_begin_26 : decode cX4_begin 26 = .ok (.iconst 0, 1) := by decide +kernel
theorem dX4_begin_27 : decode cX4_begin 27 = .ok (.putfield 34, 3) := by decide +kernel
theorem dX4_begin_30 : decode cX4_begin 30 = .ok (.iconst 0, 1) := by decide +kernel
theorem dX4_begin_31 : decode cX4_begin 31 = .ok (.istore_n 2, 1) := by decide +kernel
theorem dX4_begin_32 : decode cX4_begin 32 = .ok (.iload_n 2, 1) := by decide +kernel
theorem dX4_begin_33 : decode cX4_begin 33 = .ok (.iconst 3, 1) := by decide +kernel
theorem dX4_begin_34 : decode cX4_begin 34 = .ok (.if_icmp .ge 16, 3) := by decide +kernel
theorem dX4_begin_37 : decode cX4_begin 37 = .ok (.aload_n 0, 1) := by decide +kernel
theorem dX4_begin_38 : decode cX4_begin 38 = .ok (.getfield 9, 3) := by decide +kernel
theorem dX4_begin_41 : decode cX4_begin 41 = .ok (.iload_n 2, 1) := by decide +kernel
theorem dX4_begin_42 : decode cX4_begin 42 = .ok (.iconst 0, 1) := by decide +kernel
theorem dX4_begin_43 : decode cX4_begin 43 = .ok (.iastore, 1) := by decide +kernel
theorem dX4_begin_44 : decode cX4_begin 44 = .ok (.iinc 2 1, 3) := by decide +kernel
theorem dX4_begin_47 : decode cX4_begin 47 = .ok (.goto (-15), 3) := by decide +kernel
theorem dX4_begin_50 : decode cX4_begin 50 = .ok (.return_, 1) := by decide +kernel
theorem dX4_become_0 : decode cX4_become 0 = .ok (.aload_n 0, 1) := by decide +kernel
theorem dX4_become_1 : decode cX4_become 1 = .ok (.aload_n 1, 1) := by decide +kernel
theorem dX4_become_2 : decode cX4_become 2 = .ok (.getfield 18, 3) := by decide +kernel
theorem dX4_become_5 : decode cX4_become 5 = .ok (.putfield 18, 3) := by decide +kernel
theorem dX4_become_8 : decode cX4_become 8 = .ok (.aload_n 0, 1) := by decide +kernel
theorem dX4_become_9 : decode cX4_become 9 = .ok (.aload_n 1, 1) := by decide +kernel
theorem dX4_become_10 : decode cX4_become 10 = .ok (.getfield 22, 3) := by decide +kernel
theorem dX4_become_13 : decode cX4_become 13 = .ok (.putfield 22, 3) := by decide +kernel
theorem dX4_become_16 : decode cX4_become 16 = .ok (.aload_n 0, 1) := by decide +kernel
theorem dX4_become_17 : decode cX4_become 17 = .ok (.aload_n 1, 1) := by decide +kernel
theorem dX4_become_18 : decode cX4_become 18 = .ok (.getfield 25, 3) := by decide +kernel
theorem dX4_become_21 : decode cX4_become 21 = .ok (.putfield 25, 3) := by decide +kernel
theorem dX4_become_24 : decode cX4_become 24 = .ok (.aload_n 0, 1) := by decide +kernel
theorem dX4_become_25 : decode cX4_become 25 = .ok (.aload_n 1, 1) := by decide +kernel
theorem dX4_become_26 : decode cX4_become 26 = .ok (.getfield 28, 3) := by decide +kernel
theorem dX4_become_29 : decode cX4_become 29 = .ok (.putfield 28, 3) := by decide +kernel
theorem dX4_become_32 : decode cX4_become 32 = .ok (.aload_n 0, 1) := by decide +kernel
theorem dX4_become_33 : decode cX4_become 33 = .ok (.aload_n 1, 1) := by decide +kernel
theorem dX4_become_34 : decode cX4_become 34 = .ok (.getfield 31, 3) := by decide +kernel
theorem dX4_become_37 : decode cX4_become 37 = .ok (.putfield 31, 3) := by decide +kernel
theorem dX4_become_40 : decode cX4_become 40 = .ok (.aload_n 0, 1) := by decide +kernel
theorem dX4_become_41 : decode cX4_become 41 = .ok (.aload_n 1, 1) := by decide +kernel
theorem dX4_become_42 : decode cX4_become 42 = .ok (.getfield 34, 3) := by decide +kernel
theorem dX4_become_45 : decode cX4_become 45 = .ok (.putfield 34, 3) := by decide +kernel
theorem dX4_become_48 : decode cX4_become 48 = .ok (.aload_n 1, 1) := by decide +kernel
theorem dX4_become_49 : decode cX4_become 49 = .ok (.getfield 9, 3) := by decide +kernel
theorem dX4_become_52 : decode cX4_become 52 = .ok (.iconst 0, 1) := by decide +kernel
theorem dX4_become_53 : decode cX4_become 53 = .ok (.aload_n 0, 1) := by decide +kernel
theorem dX4_become_54 : decode cX4_become 54 = .ok (.getfield 9, 3) := by decide +kernel
theorem dX4_become_57 : decode cX4_become 57 = .ok (.iconst 0, 1) := by decide +kernel
theorem dX4_become_58 : decode cX4_become 58 = .ok (.iconst 3, 1) := by decide +kernel
theorem dX4_become_59 : decode cX4_become 59 = .ok (.invokestatic 37, 3) := by decide +kernel
theorem dX4_become_62 : decode cX4_become 62 = .ok (.aload_n 1, 1) := by decide +kernel
theorem dX4_become_63 : decode cX4_become 63 = .ok (.getfield 15, 3) := by decide +kernel
theorem dX4_become_66 : decode cX4_become 66 = .ok (.iconst 0, 1) := by decide +kernel
theorem dX4_become_67 : decode cX4_become 67 = .ok (.aload_n 0, 1) := by decide +kernel
theorem dX4_become_68 : decode cX4_become 68 = .ok (.getfield 15, 3) := by decide +kernel
theorem dX4_become_71 : decode cX4_become 71 = .ok (.iconst 0, 1) := by decide +kernel
theorem dX4_become_72 : decode cX4_become 72 = .ok (.bipush 12, 2) := by decide +kernel
theorem dX4_become_74 : decode cX4_become 74 = .ok (.invokestatic 37, 3) := by decide +kernel
theorem dX4_become_77 : decode cX4_become 77 = .ok (.return_, 1) := by decide +kernel
theorem dX4_change_0 : decode cX4_change 0 = .ok (.iload_n 1, 1) := by decide +kernel
theorem dX4_change_1 : decode cX4_change 1 = .ok (.lookupswitch 71 #[(0, 35), (1, 47), (5, 59)], 35) := by decide +kernel
theorem dX4_change_36 : decode cX4_change 36 = .ok (.aload_n 0, 1) := by decide +kernel
theorem dX4_change_37 : decode cX4_change 37 = .ok (.getfield 25, 3) := by decide +kernel
theorem dX4_change_40 : decode cX4_change 40 = .ok (.istore_n 3, 1) := by decide +kernel
theorem dX4_change_41 : decode cX4_change 41 = .ok (.aload_n 0, 1) := by decide +kernel
theorem dX4_change_42 : decode cX4_change 42 = .ok (.iload_n 2, 1) := by decide +kernel
theorem dX4_change_43 : decode cX4_change 43 = .ok (.putfield 25, 3) := by decide +kernel
theorem dX4_change_46 : decode cX4_change 46 = .ok (.iload_n 3, 1) := by decide +kernel
theorem dX4_change_47 : decode cX4_change 47 = .ok (.ireturn, 1) := by decide +kernel
theorem dX4_change_48 : decode cX4_change 48 = .ok (.aload_n 0, 1) := by decide +kernel
theorem dX4_change_49 : decode cX4_change 49 = .ok (.getfield 28, 3) := by decide +kernel
theorem dX4_change_52 : decode cX4_change 52 = .ok (.istore_n 3, 1) := by decide +kernel
theorem dX4_change_53 : decode cX4_change 53 = .ok (.aload_n 0, 1) := by decide +kernel
theorem dX4_change_54 : decode cX4_change 54 = .ok (.iload_n 2, 1) := by decide +kernel
theorem dX4_change_55 : decode cX4_change 55 = .ok (.putfield 28, 3) := by decide +kernel
theorem dX4_change_58 : decode cX4_change 58 = .ok (.iload_n 3, 1) := by decide +kernel
theorem dX4_change_59 : decode cX4_change 59 = .ok (.ireturn, 1) := by decide +kernel
theorem dX4_change_60 : decode cX4_change 60 = .ok (.aload_n 0, 1) := by decide +kernel
theorem dX4_change_61 : decode cX4_change 61 = .ok (.getfield 22, 3) := by decide +kernel
theorem dX4_change_64 : decode cX4_change 64 = .ok (.istore_n 3, 1) := by decide +kernel
theorem dX4_change_65 : decode cX4_change 65 = .ok (.aload_n 0, 1) := by decide +kernel
theorem dX4_change_66 : decode cX4_change 66 = .ok (.iload_n 2, 1) := by decide +kernel
theorem dX4_change_67 : decode cX4_change 67 = .ok (.putfield 22, 3) := by decide +kernel
theorem dX4_change_70 : decode cX4_change 70 = .ok (.iload_n 3, 1) := by decide +kernel
theorem dX4_change_71 : decode cX4_change 71 = .ok (.ireturn, 1) := by decide +kernel
theorem dX4_change_72 : decode cX4_change 72 = .ok (.aload_n 0, 1) := by decide +kernel
theorem dX4_change_73 : decode cX4_change 73 = .ok (.iload_n 1, 1) := by decide +kernel
theorem dX4_change_74 : decode cX4_change 74 = .ok (.iconst 2, 1) := by decide +kernel
theorem dX4_change_75 : decode cX4_change 75 = .ok (.isub, 1) := by decide +kernel
theorem dX4_change_76 : decode cX4_change 76 = .ok (.iload_n 2, 1) := by decide +kernel
theorem dX4_change_77 : decode cX4_change 77 = .ok (.invokevirtual 43, 3) := by decide +kernel
theorem dX4_change_80 : decode cX4_change 80 = .ok (.ireturn, 1) := by decide +kernel
theorem dX4_turnTo_0 : decode cX4_turnTo 0 = .ok (.iload_n 1, 1) := by decide +kernel
theorem dX4_turnTo_1 : decode cX4_turnTo 1 = .ok (.iconst 0, 1) := by decide +kernel
theorem dX4_turnTo_2 : decode cX4_turnTo 2 = .ok (.iconst 2, 1) := by decide +kernel
theorem dX4_turnTo_3 : decode cX4_turnTo 3 = .ok (.invokestatic 47, 3) := by decide +kernel
theorem dX4_turnTo_6 : decode cX4_turnTo 6 = .ok (.ifCond .ne 6, 3) := by decide +kernel
theorem dX4_turnTo_9 : decode cX4_turnTo 9 = .ok (.ldc 51, 2) := by decide +kernel
theorem dX4_turnTo_11 : decode cX4_turnTo 11 = .ok (.ireturn, 1) := by decide +kernel
theorem dX4_turnTo_12 : decode cX4_turnTo 12 = .ok (.aload_n 0, 1) := by decide +kernel
theorem dX4_turnTo_13 : decode cX4_turnTo 13 = .ok (.getfield 9, 3) := by decide +kernel
theorem dX4_turnTo_16 : decode cX4_turnTo 16 = .ok (.iload_n 1, 1) := by decide +kernel
theorem dX4_turnTo_17 : decode cX4_turnTo 17 = .ok (.iaload, 1) := by decide +kernel
theorem dX4_turnTo_18 : decode cX4_turnTo 18 = .ok (.istore_n 3, 1) := by decide +kernel
theorem dX4_turnTo_19 : decode cX4_turnTo 19 = .ok (.aload_n 0, 1) := by decide +kernel
theorem dX4_turnTo_20 : decode cX4_turnTo 20 = .ok (.getfield 9, 3) := by decide +kernel
theorem dX4_turnTo_23 : decode cX4_turnTo 23 = .ok (.iload_n 1, 1) := by decide +kernel
theorem dX4_turnTo_24 : decode cX4_turnTo 24 = .ok (.iload_n 2, 1) := by decide +kernel
theorem dX4_turnTo_25 : decode cX4_turnTo 25 = .ok (.iastore, 1) := by decide +kernel
theorem dX4_turnTo_26 : decode cX4_turnTo 26 = .ok (.iload_n 3, 1) := by decide +kernel
theorem dX4_turnTo_27 : decode cX4_turnTo 27 = .ok (.ireturn, 1) := by decide +kernel
theorem dX4_finish_0 : decode cX4_finish 0 = .ok (.aload_n 0, 1) := by decide +kernel
theorem dX4_finish_1 : decode cX4_finish 1 = .ok (.getfield 15, 3) := by decide +kernel
theorem dX4_finish_4 : decode cX4_finish 4 = .ok (.iconst 0, 1) := by decide +kernel
theorem dX4_finish_5 : decode cX4_finish 5 = .ok (.aload_n 0, 1) := by decide +kernel
theorem dX4_finish_6 : decode cX4_finish 6 = .ok (.getfield 15, 3) := by decide +kernel
theorem dX4_finish_9 : decode cX4_finish 9 = .ok (.iconst 1, 1) := by decide +kernel
theorem dX4_finish_10 : decode cX4_finish 10 = .ok (.bipush 11, 2) := by decide +kernel
theorem dX4_finish_12 : decode cX4_finish 12 = .ok (.invokestatic 37, 3) := by decide +kernel
theorem dX4_finish_15 : decode cX4_finish 15 = .ok (.aload_n 0, 1) := by decide +kernel
theorem dX4_finish_16 : decode cX4_finish 16 = .ok (.getfield 15, 3) := by decide +kernel
theorem dX4_finish_19 : decode cX4_finish 19 = .ok (.iconst 0, 1) := by decide +kernel
theorem dX4_finish_20 : decode cX4_finish 20 = .ok (.iload_n 1, 1) := by decide +kernel
theorem dX4_finish_21 : decode cX4_finish 21 = .ok (.iastore, 1) := by decide +kernel
theorem dX4_finish_22 : decode cX4_finish 22 = .ok (.aload_n 0, 1) := by decide +kernel
theorem dX4_finish_23 : decode cX4_finish 23 = .ok (.bipush 12, 2) := by decide +kernel
theorem dX4_finish_25 : decode cX4_finish 25 = .ok (.aload_n 0, 1) := by decide +kernel
theorem dX4_finish_26 : decode cX4_finish 26 = .ok (.getfield 34, 3) := by decide +kernel
theorem dX4_finish_29 : decode cX4_finish 29 = .ok (.iconst 1, 1) := by decide +kernel
theorem dX4_finish_30 : decode cX4_finish 30 = .ok (.iadd, 1) := by decide +kernel
theorem dX4_finish_31 : decode cX4_finish 31 = .ok (.invokestatic 52, 3) := by decide +kernel
theorem dX4_finish_34 : decode cX4_finish 34 = .ok (.putfield 34, 3) := by decide +kernel
theorem dX4_finish_37 : decode cX4_finish 37 = .ok (.aload_n 0, 1) := by decide +kernel
theorem dX4_finish_38 : decode cX4_finish 38 = .ok (.dup, 1) := by decide +kernel
theorem dX4_finish_39 : decode cX4_finish 39 = .ok (.getfield 31, 3) := by decide +kernel
theorem dX4_finish_42 : decode cX4_finish 42 = .ok (.iconst 1, 1) := by decide +kernel
theorem dX4_finish_43 : decode cX4_finish 43 = .ok (.iadd, 1) := by decide +kernel
theorem dX4_finish_44 : decode cX4_finish 44 = .ok (.putfield 31, 3) := by decide +kernel
theorem dX4_finish_47 : decode cX4_finish 47 = .ok (.aload_n 2, 1) := by decide +kernel
theorem dX4_finish_48 : decode cX4_finish 48 = .ok (.aload_n 0, 1) := by decide +kernel
theorem dX4_finish_49 : decode cX4_finish 49 = .ok (.getfield 34, 3) := by decide +kernel
theorem dX4_finish_52 : decode cX4_finish 52 = .ok (.invokevirtual 57, 3) := by decide +kernel
theorem dX4_finish_55 : decode cX4_finish 55 = .ok (.istore_n 3, 1) := by decide +kernel
theorem dX4_finish_56 : decode cX4_finish 56 = .ok (.aload_n 2, 1) := by decide +kernel
theorem dX4_finish_57 : decode cX4_finish 57 = .ok (.iload_n 3, 1) := by decide +kernel
theorem dX4_finish_58 : decode cX4_finish 58 = .ok (.invokevirtual 63, 3) := by decide +kernel
theorem dX4_finish_61 : decode cX4_finish 61 = .ok (.istore 4, 2) := by decide +kernel
theorem dX4_finish_63 : decode cX4_finish 63 = .ok (.aload_n 0, 1) := by decide +kernel
theorem dX4_finish_64 : decode cX4_finish 64 = .ok (.aload_n 2, 1) := by decide +kernel
theorem dX4_finish_65 : decode cX4_finish 65 = .ok (.aload_n 0, 1) := by decide +kernel
theorem dX4_finish_66 : decode cX4_finish 66 = .ok (.getfield 22, 3) := by decide +kernel
theorem dX4_finish_69 : decode cX4_finish 69 = .ok (.aload_n 0, 1) := by decide +kernel
theorem dX4_finish_70 : decode cX4_finish 70 = .ok (.iload_n 3, 1) := by decide +kernel
theorem dX4_finish_71 : decode cX4_finish 71 = .ok (.iload 4, 2) := by decide +kernel
theorem dX4_finish_73 : decode cX4_finish 73 = .ok (.aload_n 2, 1) := by decide +kernel
theorem dX4_finish_74 : decode cX4_finish 74 = .ok (.aload_n 0, 1) := by decide +kernel
theorem dX4_finish_75 : decode cX4_finish 75 = .ok (.getfield 22, 3) := by decide +kernel
theorem dX4_finish_78 : decode cX4_finish 78 = .ok (.invokevirtual 66, 3) := by decide +kernel
theorem dX4_finish_81 : decode cX4_finish 81 = .ok (.invokevirtual 69, 3) := by decide +kernel
theorem dX4_finish_84 : decode cX4_finish 84 = .ok (.iload 4, 2) := by decide +kernel
theorem dX4_finish_86 : decode cX4_finish 86 = .ok (.invokevirtual 73, 3) := by decide +kernel
theorem dX4_finish_89 : decode cX4_finish 89 = .ok (.putfield 22, 3) := by decide +kernel
theorem dX4_finish_92 : decode cX4_finish 92 = .ok (.aload_n 0, 1) := by decide +kernel
theorem dX4_finish_93 : decode cX4_finish 93 = .ok (.aload_n 0, 1) := by decide +kernel
theorem dX4_finish_94 : decode cX4_finish 94 = .ok (.getfield 18, 3) := by decide +kernel
theorem dX4_finish_97 : decode cX4_finish 97 = .ok (.aload_n 0, 1) := by decide +kernel
theorem dX4_finish_98 : decode cX4_finish 98 = .ok (.getfield 28, 3) := by decide +kernel
theorem dX4_finish_101 : decode cX4_finish 101 = .ok (.iadd, 1) := by decide +kernel
theorem dX4_finish_102 : decode cX4_finish 102 = .ok (.iconst 0, 1) := by decide +kernel
theorem dX4_finish_103 : decode cX4_finish 103 = .ok (.sipush 200, 3) := by decide +kernel
theorem dX4_finish_106 : decode cX4_finish 106 = .ok (.invokestatic 76, 3) := by decide +kernel
theorem dX4_finish_109 : decode cX4_finish 109 = .ok (.putfield 18, 3) := by decide +kernel
theorem dX4_finish_112 : decode cX4_finish 112 = .ok (.return_, 1) := by decide +kernel
theorem dX4_bestSum_0 : decode cX4_bestSum 0 = .ok (.iconst 0, 1) := by decide +kernel
theorem dX4_bestSum_1 : decode cX4_bestSum 1 = .ok (.istore 4, 2) := by decide +kernel
theorem dX4_bestSum_3 : decode cX4_bestSum 3 = .ok (.iconst 0, 1) := by decide +kernel
theorem dX4_bestSum_4 : decode cX4_bestSum 4 = .ok (.istore 5, 2) := by decide +kernel
theorem dX4_bestSum_6 : decode cX4_bestSum 6 = .ok (.iload 5, 2) := by decide +kernel
theorem dX4_bestSum_8 : decode cX4_bestSum 8 = .ok (.iload_n 1, 1) := by decide +kernel
theorem dX4_bestSum_9 : decode cX4_bestSum 9 = .ok (.if_icmp .ge 36, 3) := by decide +kernel
theorem dX4_bestSum_12 : decode cX4_bestSum 12 = .ok (.aload_n 0, 1) := by decide +kernel
theorem dX4_bestSum_13 : decode cX4_bestSum 13 = .ok (.iload 5, 2) := by decide +kernel
theorem dX4_bestSum_15 : decode cX4_bestSum 15 = .ok (.iload_n 1, 1) := by decide +kernel
theorem dX4_bestSum_16 : decode cX4_bestSum 16 = .ok (.invokevirtual 79, 3) := by decide +kernel
theorem dX4_bestSum_19 : decode cX4_bestSum 19 = .ok (.iload_n 2, 1) := by decide +kernel
theorem dX4_bestSum_20 : decode cX4_bestSum 20 = .ok (.if_icmp .ge 19, 3) := by decide +kernel
theorem dX4_bestSum_23 : decode cX4_bestSum 23 = .ok (.iload 4, 2) := by decide +kernel
theorem dX4_bestSum_25 : decode cX4_bestSum 25 = .ok (.aload_n 0, 1) := by decide +kernel
theorem dX4_bestSum_26 : decode cX4_bestSum 26 = .ok (.getfield 15, 3) := by decide +kernel
theorem dX4_bestSum_29 : decode cX4_bestSum 29 = .ok (.iload 5, 2) := by decide +kernel
theorem dX4_bestSum_31 : decode cX4_bestSum 31 = .ok (.iaload, 1) := by decide +kernel
theorem dX4_bestSum_32 : decode cX4_bestSum 32 = .ok (.iload_n 3, 1) := by decide +kernel
theorem dX4_bestSum_33 : decode cX4_bestSum 33 = .ok (.invokestatic 52, 3) := by decide +kernel
theorem dX4_bestSum_36 : decode cX4_bestSum 36 = .ok (.iadd, 1) := by decide +kernel
theorem dX4_bestSum_37 : decode cX4_bestSum 37 = .ok (.istore 4, 2) := by decide +kernel
theorem dX4_bestSum_39 : decode cX4_bestSum 39 = .ok (.iinc 5 1, 3) := by decide +kernel
theorem dX4_bestSum_42 : decode cX4_bestSum 42 = .ok (.goto (-36), 3) := by decide +kernel
theorem dX4_bestSum_45 : decode cX4_bestSum 45 = .ok (.iload 4, 2) := by decide +kernel
theorem dX4_bestSum_47 : decode cX4_bestSum 47 = .ok (.ireturn, 1) := by decide +kernel
theorem dX4_betterThan_0 : decode cX4_betterThan 0 = .ok (.iconst 0, 1) := by decide +kernel
theorem dX4_betterThan_1 : decode cX4_betterThan 1 = .ok (.istore_n 3, 1) := by decide +kernel
theorem dX4_betterThan_2 : decode cX4_betterThan 2 = .ok (.iconst 0, 1) := by decide +kernel
theorem dX4_betterThan_3 : decode cX4_betterThan 3 = .ok (.istore 4, 2) := by decide +kernel
theorem dX4_betterThan_5 : decode cX4_betterThan 5 = .ok (.iload 4, 2) := by decide +kernel
theorem dX4_betterThan_7 : decode cX4_betterThan 7 = .ok (.iload_n 2, 1) := by decide +kernel
theorem dX4_betterThan_8 : decode cX4_betterThan 8 = .ok (.if_icmp .ge 50, 3) := by decide +kernel
theorem dX4_betterThan_11 : decode cX4_betterThan 11 = .ok (.aload_n 0, 1) := by decide +kernel
theorem dX4_betterThan_12 : decode cX4_betterThan 12 = .ok (.getfield 15, 3) := by decide +kernel
theorem dX4_betterThan_15 : decode cX4_betterThan 15 = .ok (.iload 4, 2) := by decide +kernel
theorem dX4_betterThan_17 : decode cX4_betterThan 17 = .ok (.iaload, 1) := by decide +kernel
theorem dX4_betterThan_18 : decode cX4_betterThan 18 = .ok (.aload_n 0, 1) := by decide +kernel
theorem dX4_betterThan_19 : decode cX4_betterThan 19 = .ok (.getfield 15, 3) := by decide +kernel
theorem dX4_betterThan_22 : decode cX4_betterThan 22 = .ok (.iload_n 1, 1) := by decide +kernel
theorem dX4_betterThan_23 : decode cX4_betterThan 23 = .ok (.iaload, 1) := by decide +kernel
theorem dX4_betterThan_24 : decode cX4_betterThan 24 = .ok (.if_icmp .gt 25, 3) := by decide +kernel
theorem dX4_betterThan_27 : decode cX4_betterThan 27 = .ok (.aload_n 0, 1) := by decide +kernel
theorem dX4_betterThan_28 : decode cX4_betterThan 28 = .ok (.getfield 15, 3) := by decide +kernel
theorem dX4_betterThan_31 : decode cX4_betterThan 31 = .ok (.iload 4, 2) := by decide +kernel
theorem dX4_betterThan_33 : decode cX4_betterThan 33 = .ok (.iaload, 1) := by decide +kernel
theorem dX4_betterThan_34 : decode cX4_betterThan 34 = .ok (.aload_n 0, 1) := by decide +kernel
theorem dX4_betterThan_35 : decode cX4_betterThan 35 = .ok (.getfield 15, 3) := by decide +kernel
theorem dX4_betterThan_38 : decode cX4_betterThan 38 = .ok (.iload_n 1, 1) := by decide +kernel
theorem dX4_betterThan_39 : decode cX4_betterThan 39 = .ok (.iaload, 1) := by decide +kernel
theorem dX4_betterThan_40 : decode cX4_betterThan 40 = .ok (.if_icmp .ne 12, 3) := by decide +kernel
theorem dX4_betterThan_43 : decode cX4_betterThan 43 = .ok (.iload 4, 2) := by decide +kernel
theorem dX4_betterThan_45 : decode cX4_betterThan 45 = .ok (.iload_n 1, 1) := by decide +kernel
theorem dX4_betterThan_46 : decode cX4_betterThan 46 = .ok (.if_icmp .ge 6, 3) := by decide +kernel
theorem dX4_betterThan_49 : decode cX4_betterThan 49 = .ok (.iinc 3 1, 3) := by decide +kernel
theorem dX4_betterThan_52 : decode cX4_betterThan 52 = .ok (.iinc 4 1, 3) := by decide +kernel
theorem dX4_betterThan_55 : decode cX4_betterThan 55 = .ok (.goto (-50), 3) := by decide +kernel
theorem dX4_betterThan_58 : decode cX4_betterThan 58 = .ok (.iload_n 3, 1) := by decide +kernel
theorem dX4_betterThan_59 : decode cX4_betterThan 59 = .ok (.ireturn, 1) := by decide +kernel
theorem dX5_init_0 : decode cX5_init 0 = .ok (.aload_n 0, 1) := by decide +kernel
theorem dX5_init_1 : decode cX5_init 1 = .ok (.invokespecial 3, 3) := by decide +kernel
theorem dX5_init_4 : decode cX5_init 4 = .ok (.aload_n 0, 1) := by decide +kernel
theorem dX5_init_5 : decode cX5_init 5 = .ok (.bipush 10, 2) := by decide +kernel
theorem dX5_init_7 : decode cX5_init 7 = .ok (.newarray .int, 2) := by decide +kernel
theorem dX5_init_9 : decode cX5_init 9 = .ok (.putfield 9, 3) := by decide +kernel
theorem dX5_init_12 : decode cX5_init 12 = .ok (.aload_n 0, 1) := by decide +kernel
theorem dX5_init_13 : decode cX5_init 13 = .ok (.bipush 10, 2) := by decide +kernel
theorem dX5_init_15 : decode cX5_init 15 = .ok (.newarray .int, 2) := by decide +kernel
theorem dX5_init_17 : decode cX5_init 17 = .ok (.putfield 13, 3) := by decide +kernel
theorem dX5_init_20 : decode cX5_init 20 = .ok (.return_, 1) := by decide +kernel
theorem dX5_begin_0 : decode cX5_begin 0 = .ok (.aload_n 0, 1) := by decide +kernel
theorem dX5_begin_1 : decode cX5_begin 1 = .ok (.iload_n 1, 1) := by decide +kernel
theorem dX5_begin_2 : decode cX5_begin 2 = .ok (.putfield 16, 3) := by decide +kernel
theorem dX5_begin_5 : decode cX5_begin 5 = .ok (.aload_n 0, 1) := by decide +kernel
theorem dX5_begin_6 : decode cX5_begin 6 = .ok (.iload_n 2, 1) := by decide +kernel
theorem dX5_begin_7 : decode cX5_begin 7 = .ok (.bipush 10, 2) := by decide +kernel
theorem dX5_begin_9 : decode cX5_begin 9 = .ok (.invokestatic 20, 3) := by decide +kernel
theorem dX5_begin_12 : decode cX5_begin 12 = .ok (.putfield 26, 3) := by decide +kernel
theorem dX5_begin_15 : decode cX5_begin 15 = .ok (.aload_n 0, 1) := by decide +kernel
theorem dX5_begin_16 : decode cX5_begin 16 = .ok (.iload_n 3, 1) := by decide +kernel
theorem dX5_begin_17 : decode cX5_begin 17 = .ok (.putfield 29, 3) := by decide +kernel
theorem dX5_begin_20 : decode cX5_begin 20 = .ok (.aload_n 0, 1) := by decide +kernel
theorem dX5_begin_21 : decode cX5_begin 21 = .ok (.iload 4, 2) := by decide +kernel
theorem dX5_begin_23 : decode cX5_begin 23 = .ok (.putfield 32, 3) := by decide +kernel
theorem dX5_begin_26 : decode cX5_begin 26 = .ok (.aload_n 0, 1) := by decide +kernel
theorem dX5_begin_27 : decode cX5_begin 27 = .ok (.aload 5, 2) := by decide +kernel
theorem dX5_begin_29 : decode cX5_begin 29 = .ok (.putfield 35, 3) := by decide +kernel
theorem dX5_begin_32 : decode cX5_begin 32 = .ok (.return_, 1) := by decide +kernel
theorem dX5_bestScore_0 : decode cX5_bestScore 0 = .ok (.aload_n 0, 1) := by decide +kernel
theorem dX5_bestScore_1 : decode cX5_bestScore 1 = .ok (.iload_n 1, 1) := by decide +kernel
theorem dX5_bestScore_2 : decode cX5_bestScore 2 = .ok (.putfield 39, 3) := by decide +kernel
theorem dX5_bestScore_5 : decode cX5_bestScore 5 = .ok (.aload_n 0, 1) := by decide +kernel
theorem dX5_bestScore_6 : decode cX5_bestScore 6 = .ok (.iconst 0, 1) := by decide +kernel
theorem dX5_bestScore_7 : decode cX5_bestScore 7 = .ok (.aload_n 0, 1) := by decide +kernel
theorem dX5_bestScore_8 : decode cX5_bestScore 8 = .ok (.getfield 16, 3) := by decide +kernel
theorem dX5_bestScore_11 : decode cX5_bestScore 11 = .ok (.iconst 0, 1) := by decide +kernel
theorem dX5_bestScore_12 : decode cX5_bestScore 12 = .ok (.iconst 0, 1) := by decide +kernel
theorem dX5_bestScore_13 : decode cX5_bestScore 13 = .ok (.invokevirtual 43, 3) := by decide +kernel
theorem dX5_bestScore_16 : decode cX5_bestScore 16 = .ok (.ireturn, 1) := by decide +kernel
theorem dX5_bestFrom_0 : decode cX5_bestFrom 0 = .ok (.iload_n 1, 1) := by decide +kernel
theorem dX5_bestFrom_1 : decode cX5_bestFrom 1 = .ok (.aload_n 0, 1) := by decide +kernel
theorem dX5_bestFrom_2 : decode cX5_bestFrom 2 = .ok (.getfield 26, 3) := by decide +kernel
theorem dX5_bestFrom_5 : decode cX5_bestFrom 5 = .ok (.if_icmp .lt 18, 3) := by decide +kernel
theorem dX5_bestFrom_8 : decode cX5_bestFrom 8 = .ok (.iload 4, 2) := by decide +kernel
theorem dX5_bestFrom_10 : decode cX5_bestFrom 10 = .ok (.sipush 1024, 3) := by decide +kernel
theorem dX5_bestFrom_13 : decode cX5_bestFrom 13 = .ok (.imul, 1) := by decide +kernel
theorem dX5_bestFrom_14 : decode cX5_bestFrom 14 = .ok (.sipush 1024, 3) := by decide +kernel
theorem dX5_bestFrom_17 : decode cX5_bestFrom 17 = .ok (.iadd, 1) := by decide +kernel
theorem dX5_bestFrom_18 : decode cX5_bestFrom 18 = .ok (.iconst 1, 1) := by decide +kernel
theorem dX5_bestFrom_19 : decode cX5_bestFrom 19 = .ok (.isub, 1) := by decide +kernel
theorem dX5_bestFrom_20 : decode cX5_bestFrom 20 = .ok (.iload_n 3, 1) := by decide +kernel
theorem dX5_bestFrom_21 : decode cX5_bestFrom 21 = .ok (.isub, 1) := by decide +kernel
theorem dX5_bestFrom_22 : decode cX5_bestFrom 22 = .ok (.ireturn, 1) := by decide +kernel
theorem dX5_bestFrom_23 : decode cX5_bestFrom 23 = .ok (.aload_n 0, 1) := by decide +kernel
theorem dX5_bestFrom_24 : decode cX5_bestFrom 24 = .ok (.iload_n 1, 1) := by decide +kernel
theorem dX5_bestFrom_25 : decode cX5_bestFrom 25 = .ok (.iconst 1, 1) := by decide +kernel
theorem dX5_bestFrom_26 : decode cX5_bestFrom 26 = .ok (.iadd, 1) := by decide +kernel
theorem dX5_bestFrom_27 : decode cX5_bestFrom 27 = .ok (.aload_n 0, 1) := by decide +kernel
theorem dX5_bestFrom_28 : decode cX5_bestFrom 28 = .ok (.iload_n 1, 1) := by decide +kernel
theorem dX5_bestFrom_29 : decode cX5_bestFrom 29 = .ok (.iload_n 2, 1) := by decide +kernel
theorem dX5_bestFrom_30 : decode cX5_bestFrom 30 = .ok (.iload_n 3, 1) := by decide +kernel
theorem dX5_bestFrom_31 : decode cX5_bestFrom 31 = .ok (.invokevirtual 47, 3) := by decide +kernel
theorem dX5_bestFrom_34 : decode cX5_bestFrom 34 = .ok (.iload_n 3, 1) := by decide +kernel
theorem dX5_bestFrom_35 : decode cX5_bestFrom 35 = .ok (.iload 4, 2) := by decide +kernel
theorem dX5_bestFrom_37 : decode cX5_bestFrom 37 = .ok (.aload_n 0, 1) := by decide +kernel
theorem dX5_bestFrom_38 : decode cX5_bestFrom 38 = .ok (.iload_n 1, 1) := by decide +kernel
theorem dX5_bestFrom_39 : decode cX5_bestFrom 39 = .ok (.iload_n 2, 1) := by decide +kernel
theorem dX5_bestFrom_40 : decode cX5_bestFrom 40 = .ok (.invokevirtual 51, 3) := by decide +kernel
theorem dX5_bestFrom_43 : decode cX5_bestFrom 43 = .ok (.iadd, 1) := by decide +kernel
theorem dX5_bestFrom_44 : decode cX5_bestFrom 44 = .ok (.invokevirtual 43, 3) := by decide +kernel
theorem dX5_bestFrom_47 : decode cX5_bestFrom 47 = .ok (.istore 5, 2) := by decide +kernel
theorem dX5_bestFrom_49 : decode cX5_bestFrom 49 = .ok (.aload_n 0, 1) := by decide +kernel
theorem dX5_bestFrom_50 : decode cX5_bestFrom 50 = .ok (.getfield 39, 3) := by decide +kernel
theorem dX5_bestFrom_53 : decode cX5_bestFrom 53 = .ok (.ifCond .eq 36, 3) := by decide +kernel
theorem dX5_bestFrom_56 : decode cX5_bestFrom 56 = .ok (.iload_n 3, 1) := by decide +kernel
theorem dX5_bestFrom_57 : decode cX5_bestFrom 57 = .ok (.iconst 1, 1) := by decide +kernel
theorem dX5_bestFrom_58 : decode cX5_bestFrom 58 = .ok (.iload_n 1, 1) := by decide +kernel
theorem dX5_bestFrom_59 : decode cX5_bestFrom 59 = .ok (.ishl, 1) := by decide +kernel
theorem dX5_bestFrom_60 : decode cX5_bestFrom 60 = .ok (.ior, 1) := by decide +kernel
theorem dX5_bestFrom_61 : decode cX5_bestFrom 61 = .ok (.istore 6, 2) := by decide +kernel
theorem dX5_bestFrom_63 : decode cX5_bestFrom 63 = .ok (.iload 5, 2) := by decide +kernel
theorem dX5_bestFrom_65 : decode cX5_bestFrom 65 = .ok (.aload_n 0, 1) := by decide +kernel
theorem dX5_bestFrom_66 : decode cX5_bestFrom 66 = .ok (.iload_n 1, 1) := by decide +kernel
theorem dX5_bestFrom_67 : decode cX5_bestFrom 67 = .ok (.iconst 1, 1) := by decide +kernel
theorem dX5_bestFrom_68 : decode cX5_bestFrom 68 = .ok (.iadd, 1) := by decide +kernel
theorem dX5_bestFrom_69 : decode cX5_bestFrom 69 = .ok (.aload_n 0, 1) := by decide +kernel
theorem dX5_bestFrom_70 : decode cX5_bestFrom 70 = .ok (.iload_n 1, 1) := by decide +kernel
theorem dX5_bestFrom_71 : decode cX5_bestFrom 71 = .ok (.iload_n 2, 1) := by decide +kernel
theorem dX5_bestFrom_72 : decode cX5_bestFrom 72 = .ok (.iload 6, 2) := by decide +kernel
theorem dX5_bestFrom_74 : decode cX5_bestFrom 74 = .ok (.invokevirtual 47, 3) := by decide +kernel
theorem dX5_bestFrom_77 : decode cX5_bestFrom 77 = .ok (.iload 6, 2) := by decide +kernel
theorem dX5_bestFrom_79 : decode cX5_bestFrom 79 = .ok (.iload 4, 2) := by decide +kernel
theorem dX5_bestFrom_81 : decode cX5_bestFrom 81 = .ok (.invokevirtual 43, 3) := by decide +kernel
theorem dX5_bestFrom_84 : decode cX5_bestFrom 84 = .ok (.invokestatic 54, 3) := by decide +kernel
theorem dX5_bestFrom_87 : decode cX5_bestFrom 87 = .ok (.istore 5, 2) := by decide +kernel
theorem dX5_bestFrom_89 : decode cX5_bestFrom 89 = .ok (.iload 5, 2) := by decide +kernel
theorem dX5_bestFrom_91 : decode cX5_bestFrom 91 = .ok (.ireturn, 1) := by decide +kernel
theorem dX5_wonOf_0 : decode cX5_wonOf 0 = .ok (.iload_n 0, 1) := by decide +kernel
theorem dX5_wonOf_1 : decode cX5_wonOf 1 = .ok (.sipush 1024, 3) := by decide +kernel
theorem dX5_wonOf_4 : decode cX5_wonOf 4 = .ok (.idiv, 1) := by decide +kernel
theorem dX5_wonOf_5 : decode cX5_wonOf 5 = .ok (.ireturn, 1) := by decide +kernel
theorem dX5_pullsOf_0 : decode cX5_pullsOf 0 = .ok (.sipush 1023, 3) := by decide +kernel
theorem dX5_pullsOf_3 : decode cX5_pullsOf 3 = .ok (.iload_n 0, 1) := by decide +kernel
theorem dX5_pullsOf_4 : decode cX5_pullsOf 4 = .ok (.sipush 1024, 3) := by decide +kernel
theorem dX5_pullsOf_7 : decode cX5_pullsOf 7 = .ok (.irem, 1) := by decide +kernel
theorem dX5_pullsOf_8 : decode cX5_pullsOf 8 = .ok (.isub, 1) := by decide +kernel
theorem dX5_pullsOf_9 : decode cX5_pullsOf 9 = .ok (.ireturn, 1) := by decide +kernel
theorem dX5_wonAt_0 : decode cX5_wonAt 0 = .ok (.iconst 0, 1) := by decide +kernel
theorem dX5_wonAt_1 : decode cX5_wonAt 1 = .ok (.iload_n 2, 1) := by decide +kernel
theorem dX5_wonAt_2 : decode cX5_wonAt 2 = .ok (.aload_n 0, 1) := by decide +kernel
theorem dX5_wonAt_3 : decode cX5_wonAt 3 = .ok (.getfield 9, 3) := by decide +kernel
theorem dX5_wonAt_6 : decode cX5_wonAt 6 = .ok (.iload_n 1, 1) := by decide +kernel
theorem dX5_wonAt_7 : decode cX5_wonAt 7 = .ok (.iaload, 1) := by decide +kernel
theorem dX5_wonAt_8 : decode cX5_wonAt 8 = .ok (.isub, 1) := by decide +kernel
theorem dX5_wonAt_9 : decode cX5_wonAt 9 = .ok (.invokestatic 54, 3) := by decide +kernel
theorem dX5_wonAt_12 : decode cX5_wonAt 12 = .ok (.istore_n 3, 1) := by decide +kernel
theorem dX5_wonAt_13 : decode cX5_wonAt 13 = .ok (.aload_n 0, 1) := by decide +kernel
theorem dX5_wonAt_14 : decode cX5_wonAt 14 = .ok (.getfield 9, 3) := by decide +kernel
theorem dX5_wonAt_17 : decode cX5_wonAt 17 = .ok (.iload_n 1, 1) := by decide +kernel
theorem dX5_wonAt_18 : decode cX5_wonAt 18 = .ok (.iaload, 1) := by decide +kernel
theorem dX5_wonAt_19 : decode cX5_wonAt 19 = .ok (.iload_n 3, 1) := by decide +kernel
theorem dX5_wonAt_20 : decode cX5_wonAt 20 = .ok (.iadd, 1) := by decide +kernel
theorem dX5_wonAt_21 : decode cX5_wonAt 21 = .ok (.aload_n 0, 1) := by decide +kernel
theorem dX5_wonAt_22 : decode cX5_wonAt 22 = .ok (.getfield 16, 3) := by decide +kernel
theorem dX5_wonAt_25 : decode cX5_wonAt 25 = .ok (.isub, 1) := by decide +kernel
theorem dX5_wonAt_26 : decode cX5_wonAt 26 = .ok (.istore 4, 2) := by decide +kernel
theorem dX5_wonAt_28 : decode cX5_wonAt 28 = .ok (.aload_n 0, 1) := by decide +kernel
theorem dX5_wonAt_29 : decode cX5_wonAt 29 = .ok (.getfield 13, 3) := by decide +kernel
theorem dX5_wonAt_32 : decode cX5_wonAt 32 = .ok (.iload_n 1, 1) := by decide +kernel
theorem dX5_wonAt_33 : decode cX5_wonAt 33 = .ok (.iaload, 1) := by decide +kernel
theorem dX5_wonAt_34 : decode cX5_wonAt 34 = .ok (.aload_n 0, 1) := by decide +kernel
theorem dX5_wonAt_35 : decode cX5_wonAt 35 = .ok (.getfield 29, 3) := by decide +kernel
theorem dX5_wonAt_38 : decode cX5_wonAt 38 = .ok (.iload 4, 2) := by decide +kernel
theorem dX5_wonAt_40 : decode cX5_wonAt 40 = .ok (.isub, 1) := by decide +kernel
theorem dX5_wonAt_41 : decode cX5_wonAt 41 = .ok (.iconst 1, 1) := by decide +kernel
theorem dX5_wonAt_42 : decode cX5_wonAt 42 = .ok (.iadd, 1) := by decide +kernel
theorem dX5_wonAt_43 : decode cX5_wonAt 43 = .ok (.iconst 0, 1) := by decide +kernel
theorem dX5_wonAt_44 : decode cX5_wonAt 44 = .ok (.iconst 2, 1) := by decide +kernel
theorem dX5_wonAt_45 : decode cX5_wonAt 45 = .ok (.aload_n 0, 1) := by decide +kernel
theorem dX5_wonAt_46 : decode cX5_wonAt 46 = .ok (.getfield 29, 3) := by decide +kernel
theorem dX5_wonAt_49 : decode cX5_wonAt 49 = .ok (.imul, 1) := by decide +kernel
theorem dX5_wonAt_50 : decode cX5_wonAt 50 = .ok (.iconst 1, 1) := by decide +kernel
theorem dX5_wonAt_51 : decode cX5_wonAt 51 = .ok (.iadd, 1) := by decide +kernel
theorem dX5_wonAt_52 : decode cX5_wonAt 52 = .ok (.invokestatic 57, 3) := by decide +kernel
theorem dX5_wonAt_55 : decode cX5_wonAt 55 = .ok (.imul, 1) := by decide +kernel
theorem dX5_wonAt_56 : decode cX5_wonAt 56 = .ok (.ireturn, 1) := by decide +kernel
theorem dX5_markAfter_0 : decode cX5_markAfter 0 = .ok (.aload_n 0, 1) := by decide +kernel
theorem dX5_markAfter_1 : decode cX5_markAfter 1 = .ok (.getfield 35, 3) := by decide +kernel
theorem dX5_markAfter_4 : decode cX5_markAfter 4 = .ok (.ifnonnull 5, 3) := by decide +kernel
theorem dX5_markAfter_7 : decode cX5_markAfter 7 = .ok (.iload_n 2, 1) := by decide +kernel
theorem dX5_markAfter_8 : decode cX5_markAfter 8 = .ok (.ireturn, 1) := by decide +kernel
theorem dX5_markAfter_9 : decode cX5_markAfter 9 = .ok (.aload_n 0, 1) := by decide +kernel
theorem dX5_markAfter_10 : decode cX5_markAfter 10 = .ok (.getfield 35, 3) := by decide +kernel
theorem dX5_markAfter_13 : decode cX5_markAfter 13 = .ok (.iload_n 1, 1) := by decide +kernel
theorem dX5_markAfter_14 : decode cX5_markAfter 14 = .ok (.iconst 1, 1) := by decide +kernel
theorem dX5_markAfter_15 : decode cX5_markAfter 15 = .ok (.iadd, 1) := by decide +kernel
theorem dX5_markAfter_16 : decode cX5_markAfter 16 = .ok (.invokevirtual 62, 3) := by decide +kernel
theorem dX5_markAfter_19 : decode cX5_markAfter 19 = .ok (.istore 4, 2) := by decide +kernel
theorem dX5_markAfter_21 : decode cX5_markAfter 21 = .ok (.aload_n 0, 1) := by decide +kernel
theorem dX5_markAfter_22 : decode cX5_markAfter 22 = .ok (.getfield 35, 3) := by decide +kernel
theorem dX5_markAfter_25 : decode cX5_markAfter 25 = .ok (.iload 4, 2) := by decide +kernel
theorem dX5_markAfter_27 : decode cX5_markAfter 27 = .ok (.invokevirtual 68, 3) := by decide +kernel
theorem dX5_markAfter_30 : decode cX5_markAfter 30 = .ok (.istore 5, 2) := by decide +kernel
theorem dX5_markAfter_32 : decode cX5_markAfter 32 = .ok (.iload 4, 2) := by decide +kernel
theorem dX5_markAfter_34 : decode cX5_markAfter 34 = .ok (.iload_n 3, 1) := by decide +kernel
theorem dX5_markAfter_35 : decode cX5_markAfter 35 = .ok (.iload_n 1, 1) := by decide +kernel
theorem dX5_markAfter_36 : decode cX5_markAfter 36 = .ok (.iconst 1, 1) := by decide +kernel
theorem dX5_markAfter_37 : decode cX5_markAfter 37 = .ok (.iadd, 1) := by decide +kernel
theorem dX5_markAfter_38 : decode cX5_markAfter 38 = .ok (.iload 4, 2) := by decide +kernel
theorem dX5_markAfter_40 : decode cX5_markAfter 40 = .ok (.isub, 1) := by decide +kernel
theorem dX5_markAfter_41 : decode cX5_markAfter 41 = .ok (.ishr, 1) := by decide +kernel
theorem dX5_markAfter_42 : decode cX5_markAfter 42 = .ok (.invokestatic 71, 3) := by decide +kernel
theorem dX5_markAfter_45 : decode cX5_markAfter 45 = .ok (.isub, 1) := by decide +kernel
theorem dX5_markAfter_46 : decode cX5_markAfter 46 = .ok (.istore 6, 2) := by decide +kernel
theorem dX5_markAfter_48 : decode cX5_markAfter 48 = .ok (.iload 5, 2) := by decide +kernel
theorem dX5_markAfter_50 : decode cX5_markAfter 50 = .ok (.iload 6, 2) := by decide +kernel
theorem dX5_markAfter_52 : decode cX5_markAfter 52 = .ok (.invokestatic 20, 3) := by decide +kernel
theorem dX5_markAfter_55 : decode cX5_markAfter 55 = .ok (.istore 7, 2) := by decide +kernel
theorem dX5_markAfter_57 : decode cX5_markAfter 57 = .ok (.aload_n 0, 1) := by decide +kernel
theorem dX5_markAfter_58 : decode cX5_markAfter 58 = .ok (.getfield 35, 3) := by decide +kernel
theorem dX5_markAfter_61 : decode cX5_markAfter 61 = .ok (.iload_n 2, 1) := by decide +kernel
theorem dX5_markAfter_62 : decode cX5_markAfter 62 = .ok (.invokevirtual 76, 3) := by decide +kernel
theorem dX5_markAfter_65 : decode cX5_markAfter 65 = .ok (.istore 8, 2) := by decide +kernel
theorem dX5_markAfter_67 : decode cX5_markAfter 67 = .ok (.iload 7, 2) := by decide +kernel
theorem dX5_markAfter_69 : decode cX5_markAfter 69 = .ok (.aload_n 0, 1) := by decide +kernel
theorem dX5_markAfter_70 : decode cX5_markAfter 70 = .ok (.getfield 16, 3) := by decide +kernel
theorem dX5_markAfter_73 : decode cX5_markAfter 73 = .ok (.iload 8, 2) := by decide +kernel
theorem dX5_markAfter_75 : decode cX5_markAfter 75 = .ok (.invokestatic 20, 3) := by decide +kernel
theorem dX5_markAfter_78 : decode cX5_markAfter 78 = .ok (.imul, 1) := by decide +kernel
theorem dX5_markAfter_79 : decode cX5_markAfter 79 = .ok (.iload 5, 2) := by decide +kernel
theorem dX5_markAfter_81 : decode cX5_markAfter 81 = .ok (.iload 7, 2) := by decide +kernel
theorem dX5_markAfter_83 : decode cX5_markAfter 83 = .ok (.isub, 1) := by decide +kernel
theorem dX5_markAfter_84 : decode cX5_markAfter 84 = .ok (.aload_n 0, 1) := by decide +kernel
theorem dX5_markAfter_85 : decode cX5_markAfter 85 = .ok (.getfield 16, 3) := by decide +kernel
theorem dX5_markAfter_88 : decode cX5_markAfter 88 = .ok (.aload_n 0, 1) := by decide +kernel
theorem dX5_markAfter_89 : decode cX5_markAfter 89 = .ok (.getfield 32, 3) := by decide +kernel
theorem dX5_markAfter_92 : decode cX5_markAfter 92 = .ok (.isub, 1) := by decide +kernel
theorem dX5_markAfter_93 : decode cX5_markAfter 93 = .ok (.iload 8, 2) := by decide +kernel
theorem dX5_markAfter_95 : decode cX5_markAfter 95 = .ok (.invokestatic 20, 3) := by decide +kernel
theorem dX5_markAfter_98 : decode cX5_markAfter 98 = .ok (.imul, 1) := by decide +kernel
theorem dX5_markAfter_99 : decode cX5_markAfter 99 = .ok (.iadd, 1) := by decide +kernel
theorem dX5_markAfter_100 : decode cX5_markAfter 100 = .ok (.istore 9, 2) := by decide +kernel
theorem dX5_markAfter_102 : decode cX5_markAfter 102 = .ok (.aload_n 0, 1) := by decide +kernel
theorem dX5_markAfter_103 : decode cX5_markAfter 103 = .ok (.getfield 35, 3) := by decide +kernel
theorem dX5_markAfter_106 : decode cX5_markAfter 106 = .ok (.iload_n 2, 1) := by decide +kernel
theorem dX5_markAfter_107 : decode cX5_markAfter 107 = .ok (.iload 9, 2) := by decide +kernel
theorem dX5_markAfter_109 : decode cX5_markAfter 109 = .ok (.iload 5, 2) := by decide +kernel
theorem dX5_markAfter_111 : decode cX5_markAfter 111 = .ok (.invokevirtual 79, 3) := by decide +kernel
theorem dX5_markAfter_114 : decode cX5_markAfter 114 = .ok (.ireturn, 1) := by decide +kernel
theorem dX6_init_0 : decode cX6_init 0 = .ok (.aload_n 0, 1) := by decide +kernel
theorem dX6_init_1 : decode cX6_init 1 = .ok (.invokespecial 3, 3) := by decide +kernel
theorem dX6_init_4 : decode cX6_init 4 = .ok (.aload_n 0, 1) := by decide +kernel
theorem dX6_init_5 : decode cX6_init 5 = .ok (.bipush 8, 2) := by decide +kernel
theorem dX6_init_7 : decode cX6_init 7 = .ok (.anewarray 9, 3) := by decide +kernel
theorem dX6_init_10 : decode cX6_init 10 = .ok (.putfield 11, 3) := by decide +kernel
theorem dX6_init_13 : decode cX6_init 13 = .ok (.aload_n 0, 1) := by decide +kernel
theorem dX6_init_14 : decode cX6_init 14 = .ok (.iconst 1, 1) := by decide +kernel
theorem dX6_init_15 : decode cX6_init 15 = .ok (.putfield 17, 3) := by decide +kernel
theorem dX6_init_18 : decode cX6_init 18 = .ok (.iconst 0, 1) := by decide +kernel
theorem dX6_init_19 : decode cX6_init 19 = .ok (.istore_n 1, 1) := by decide +kernel
theorem dX6_init_20 : decode cX6_init 20 = .ok (.iload_n 1, 1) := by decide +kernel
theorem dX6_init_21 : decode cX6_init 21 = .ok (.bipush 8, 2) := by decide +kernel
theorem dX6_init_23 : decode cX6_init 23 = .ok (.if_icmp .ge 22, 3) := by decide +kernel
theorem dX6_init_26 : decode cX6_init 26 = .ok (.aload_n 0, 1) := by decide +kernel
theorem dX6_init_27 : decode cX6_init 27 = .ok (.getfield 11, 3) := by decide +kernel
theorem dX6_init_30 : decode cX6_init 30 = .ok (.iload_n 1, 1) := by decide +kernel
theorem dX6_init_31 : decode cX6_init 31 = .ok (.new 9, 3) := by decide +kernel
theorem dX6_init_34 : decode cX6_init 34 = .ok (.dup, 1) := by decide +kernel
theorem dX6_init_35 : decode cX6_init 35 = .ok (.invokespecial 21, 3) := by decide +kernel
theorem dX6_init_38 : decode cX6_init 38 = .ok (.aastore, 1) := by decide +kernel
theorem dX6_init_39 : decode cX6_init 39 = .ok (.iinc 1 1, 3) := by decide +kernel
theorem dX6_init_42 : decode cX6_init 42 = .ok (.goto (-22), 3) := by decide +kernel
theorem dX6_init_45 : decode cX6_init 45 = .ok (.return_, 1) := by decide +kernel
theorem dX6_become_0 : decode cX6_become 0 = .ok (.aload_n 0, 1) := by decide +kernel
theorem dX6_become_1 : decode cX6_become 1 = .ok (.aload_n 1, 1) := by decide +kernel
theorem dX6_become_2 : decode cX6_become 2 = .ok (.getfield 22, 3) := by decide +kernel
theorem dX6_become_5 : decode cX6_become 5 = .ok (.putfield 22, 3) := by decide +kernel
theorem dX6_become_8 : decode cX6_become 8 = .ok (.aload_n 0, 1) := by decide +kernel
theorem dX6_become_9 : decode cX6_become 9 = .ok (.aload_n 1, 1) := by decide +kernel
theorem dX6_become_10 : decode cX6_become 10 = .ok (.getfield 17, 3) := by decide +kernel
theorem dX6_become_13 : decode cX6_become 13 = .ok (.putfield 17, 3) := by decide +kernel
theorem dX6_become_16 : decode cX6_become 16 = .ok (.aload_n 0, 1) := by decide +kernel
theorem dX6_become_17 : decode cX6_become 17 = .ok (.aload_n 1, 1) := by decide +kernel
theorem dX6_become_18 : decode cX6_become 18 = .ok (.getfield 25, 3) := by decide +kernel
theorem dX6_become_21 : decode cX6_become 21 = .ok (.putfield 25, 3) := by decide +kernel
theorem dX6_become_24 : decode cX6_become 24 = .ok (.iconst 0, 1) := by decide +kernel
theorem dX6_become_25 : decode cX6_become 25 = .ok (.istore_n 2, 1) := by decide +kernel
theorem dX6_become_26 : decode cX6_become 26 = .ok (.iload_n 2, 1) := by decide +kernel
theorem dX6_become_27 : decode cX6_become 27 = .ok (.aload_n 0, 1) := by decide +kernel
theorem dX6_become_28 : decode cX6_become 28 = .ok (.getfield 22, 3) := by decide +kernel
theorem dX6_become_31 : decode cX6_become 31 = .ok (.if_icmp .ge 24, 3) := by decide +kernel
theorem dX6_become_34 : decode cX6_become 34 = .ok (.aload_n 0, 1) := by decide +kernel
theorem dX6_become_35 : decode cX6_become 35 = .ok (.getfield 11, 3) := by decide +kernel
theorem dX6_become_38 : decode cX6_become 38 = .ok (.iload_n 2, 1) := by decide +kernel
theorem dX6_become_39 : decode cX6_become 39 = .ok (.aaload, 1) := by decide +kernel
theorem dX6_become_40 : decode cX6_become 40 = .ok (.aload_n 1, 1) := by decide +kernel
theorem dX6_become_41 : decode cX6_become 41 = .ok (.getfield 11, 3) := by decide +kernel
theorem dX6_become_44 : decode cX6_become 44 = .ok (.iload_n 2, 1) := by decide +kernel
theorem dX6_become_45 : decode cX6_become 45 = .ok (.aaload, 1) := by decide +kernel
theorem dX6_become_46 : decode cX6_become 46 = .ok (.invokevirtual 28, 3) := by decide +kernel
theorem dX6_become_49 : decode cX6_become 49 = .ok (.iinc 2 1, 3) := by decide +kernel
theorem dX6_become_52 : decode cX6_become 52 = .ok (.goto (-26), 3) := by decide +kernel
theorem dX6_become_55 : decode cX6_become 55 = .ok (.return_, 1) := by decide +kernel
theorem dX6_nextLot_0 : decode cX6_nextLot 0 = .ok (.aload_n 0, 1) := by decide +kernel
theorem dX6_nextLot_1 : decode cX6_nextLot 1 = .ok (.aload_n 0, 1) := by decide +kernel
theorem dX6_nextLot_2 : decode cX6_nextLot 2 = .ok (.getfield 17, 3) := by decide +kernel
theorem dX6_nextLot_5 : decode cX6_nextLot 5 = .ok (.ldc 32, 2) := by decide +kernel
theorem dX6_nextLot_7 : decode cX6_nextLot 7 = .ok (.imul, 1) := by decide +kernel
theorem dX6_nextLot_8 : decode cX6_nextLot 8 = .ok (.sipush 12345, 3) := by decide +kernel
theorem dX6_nextLot_11 : decode cX6_nextLot 11 = .ok (.iadd, 1) := by decide +kernel
theorem dX6_nextLot_12 : decode cX6_nextLot 12 = .ok (.putfield 17, 3) := by decide +kernel
theorem dX6_nextLot_15 : decode cX6_nextLot 15 = .ok (.aload_n 0, 1) := by decide +kernel
theorem dX6_nextLot_16 : decode cX6_nextLot 16 = .ok (.getfield 17, 3) := by decide +kernel
theorem dX6_nextLot_19 : decode cX6_nextLot 19 = .ok (.ireturn, 1) := by decide +kernel
theorem dX7_init_0 : decode cX7_init 0 = .ok (.aload_n 0, 1) := by decide +kernel
theorem dX7_init_1 : decode cX7_init 1 = .ok (.invokespecial 1, 3) := by decide +kernel
theorem dX7_init_4 : decode cX7_init 4 = .ok (.aload_n 0, 1) := by decide +kernel
theorem dX7_init_5 : decode cX7_init 5 = .ok (.new 7, 3) := by decide +kernel
theorem dX7_init_8 : decode cX7_init 8 = .ok (.dup, 1) := by decide +kernel
theorem dX7_init_9 : decode cX7_init 9 = .ok (.invokespecial 9, 3) := by decide +kernel
theorem dX7_init_12 : decode cX7_init 12 = .ok (.putfield 10, 3) := by decide +kernel
theorem dX7_init_15 : decode cX7_init 15 = .ok (.aload_n 0, 1) := by decide +kernel
theorem dX7_init_16 : decode cX7_init 16 = .ok (.iconst 2, 1) := by decide +kernel
theorem dX7_init_17 : decode cX7_init 17 = .ok (.anewarray 7, 3) := by decide +kernel
theorem dX7_init_20 : decode cX7_init 20 = .ok (.putfield 16, 3) := by decide +kernel
theorem dX7_init_23 : decode cX7_init 23 = .ok (.aload_n 0, 1) := by decide +kernel
theorem dX7_init_24 : decode cX7_init 24 = .ok (.iconst 3, 1) := by decide +kernel
theorem dX7_init_25 : decode cX7_init 25 = .ok (.newarray .int, 2) := by decide +kernel
theorem dX7_init_27 : decode cX7_init 27 = .ok (.dup, 1) := by decide +kernel
theorem dX7_init_28 : decode cX7_init 28 = .ok (.iconst 0, 1) := by decide +kernel
theorem dX7_init_29 : decode cX7_init 29 = .ok (.iconst 2, 1) := by decide +kernel
theorem dX7_init_30 : decode cX7_init 30 = .ok (.iastore, 1) := by decide +kernel
theorem dX7_init_31 : decode cX7_init 31 = .ok (.dup, 1) := by decide +kernel
theorem dX7_init_32 : decode cX7_init 32 = .ok (.iconst 1, 1) := by decide +kernel
theorem dX7_init_33 : decode cX7_init 33 = .ok (.iconst 3, 1) := by decide +kernel
theorem dX7_init_34 : decode cX7_init 34 = .ok (.iastore, 1) := by decide +kernel
theorem dX7_init_35 : decode cX7_init 35 = .ok (.dup, 1) := by decide +kernel
theorem dX7_init_36 : decode cX7_init 36 = .ok (.iconst 2, 1) := by decide +kernel
