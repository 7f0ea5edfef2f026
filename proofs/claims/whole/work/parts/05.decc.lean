theorem dX11_join_17 : decode cX11_join 17 = .ok (.astore 4, 2) := by decide +kernel
theorem dX11_join_19 : decode cX11_join 19 = .ok (.aload_n 3, 1) := by decide +kernel
theorem dX11_join_20 : decode cX11_join 20 = .ok (.ifnull 16, 3) := by decide +kernel
theorem dX11_join_23 : decode cX11_join 23 = .ok (.aload 4, 2) := by decide +kernel
theorem dX11_join_25 : decode cX11_join 25 = .ok (.ifnull 11, 3) := by decide +kernel
theorem dX11_join_28 : decode cX11_join 28 = .ok (.aload_n 3, 1) := by decide +kernel
theorem dX11_join_29 : decode cX11_join 29 = .ok (.getfield 107, 3) := by decide +kernel
theorem dX11_join_32 : decode cX11_join 32 = .ok (.iconst 4, 1) := by decide +kernel
theorem dX11_join_33 : decode cX11_join 33 = .ok (.if_icmp .eq 5, 3) := by decide +kernel
theorem dX11_join_36 : decode cX11_join 36 = .ok (.iconst (-1), 1) := by decide +kernel
theorem dX11_join_37 : decode cX11_join 37 = .ok (.ireturn, 1) := by decide +kernel
theorem dX11_join_38 : decode cX11_join 38 = .ok (.aload 4, 2) := by decide +kernel
theorem dX11_join_40 : decode cX11_join 40 = .ok (.getfield 107, 3) := by decide +kernel
theorem dX11_join_43 : decode cX11_join 43 = .ok (.iconst 4, 1) := by decide +kernel
theorem dX11_join_44 : decode cX11_join 44 = .ok (.if_icmp .ne 6, 3) := by decide +kernel
theorem dX11_join_47 : decode cX11_join 47 = .ok (.bipush (-2), 2) := by decide +kernel
theorem dX11_join_49 : decode cX11_join 49 = .ok (.ireturn, 1) := by decide +kernel
theorem dX11_join_50 : decode cX11_join 50 = .ok (.aload 4, 2) := by decide +kernel
theorem dX11_join_52 : decode cX11_join 52 = .ok (.getfield 110, 3) := by decide +kernel
theorem dX11_join_55 : decode cX11_join 55 = .ok (.iconst (-1), 1) := by decide +kernel
theorem dX11_join_56 : decode cX11_join 56 = .ok (.if_icmp .eq 6, 3) := by decide +kernel
theorem dX11_join_59 : decode cX11_join 59 = .ok (.bipush (-3), 2) := by decide +kernel
theorem dX11_join_61 : decode cX11_join 61 = .ok (.ireturn, 1) := by decide +kernel
theorem dX11_join_62 : decode cX11_join 62 = .ok (.aload 4, 2) := by decide +kernel
theorem dX11_join_64 : decode cX11_join 64 = .ok (.iload_n 1, 1) := by decide +kernel
theorem dX11_join_65 : decode cX11_join 65 = .ok (.putfield 110, 3) := by decide +kernel
theorem dX11_join_68 : decode cX11_join 68 = .ok (.aload_n 3, 1) := by decide +kernel
theorem dX11_join_69 : decode cX11_join 69 = .ok (.dup, 1) := by decide +kernel
theorem dX11_join_70 : decode cX11_join 70 = .ok (.getfield 113, 3) := by decide +kernel
theorem dX11_join_73 : decode cX11_join 73 = .ok (.iconst 1, 1) := by decide +kernel
theorem dX11_join_74 : decode cX11_join 74 = .ok (.iadd, 1) := by decide +kernel
theorem dX11_join_75 : decode cX11_join 75 = .ok (.putfield 113, 3) := by decide +kernel
theorem dX11_join_78 : decode cX11_join 78 = .ok (.aload_n 3, 1) := by decide +kernel
theorem dX11_join_79 : decode cX11_join 79 = .ok (.getfield 113, 3) := by decide +kernel
theorem dX11_join_82 : decode cX11_join 82 = .ok (.ireturn, 1) := by decide +kernel
theorem dX11_log_0 : decode cX11_log 0 = .ok (.aload_n 0, 1) := by decide +kernel
theorem dX11_log_1 : decode cX11_log 1 = .ok (.getfield 19, 3) := by decide +kernel
theorem dX11_log_4 : decode cX11_log 4 = .ok (.iload_n 1, 1) := by decide +kernel
theorem dX11_log_5 : decode cX11_log 5 = .ok (.invokevirtual 103, 3) := by decide +kernel
theorem dX11_log_8 : decode cX11_log 8 = .ok (.astore_n 3, 1) := by decide +kernel
theorem dX11_log_9 : decode cX11_log 9 = .ok (.aload_n 3, 1) := by decide +kernel
theorem dX11_log_10 : decode cX11_log 10 = .ok (.ifnull 11, 3) := by decide +kernel
theorem dX11_log_13 : decode cX11_log 13 = .ok (.iload_n 2, 1) := by decide +kernel
theorem dX11_log_14 : decode cX11_log 14 = .ok (.iconst 3, 1) := by decide +kernel
theorem dX11_log_15 : decode cX11_log 15 = .ok (.invokestatic 82, 3) := by decide +kernel
theorem dX11_log_18 : decode cX11_log 18 = .ok (.ifCond .ne 9, 3) := by decide +kernel
theorem dX11_log_21 : decode cX11_log 21 = .ok (.iconst (-1), 1) := by decide +kernel
theorem dX11_log_22 : decode cX11_log 22 = .ok (.istore 4, 2) := by decide +kernel
theorem dX11_log_24 : decode cX11_log 24 = .ok (.goto 45, 3) := by decide +kernel
theorem dX11_log_27 : decode cX11_log 27 = .ok (.aload_n 3, 1) := by decide +kernel
theorem dX11_log_28 : decode cX11_log 28 = .ok (.getfield 107, 3) := by decide +kernel
theorem dX11_log_31 : decode cX11_log 31 = .ok (.iconst 4, 1) := by decide +kernel
theorem dX11_log_32 : decode cX11_log 32 = .ok (.if_icmp .ne 10, 3) := by decide +kernel
theorem dX11_log_35 : decode cX11_log 35 = .ok (.bipush (-2), 2) := by decide +kernel
theorem dX11_log_37 : decode cX11_log 37 = .ok (.istore 4, 2) := by decide +kernel
theorem dX11_log_39 : decode cX11_log 39 = .ok (.goto 30, 3) := by decide +kernel
theorem dX11_log_42 : decode cX11_log 42 = .ok (.aload_n 0, 1) := by decide +kernel
theorem dX11_log_43 : decode cX11_log 43 = .ok (.getfield 28, 3) := by decide +kernel
theorem dX11_log_46 : decode cX11_log 46 = .ok (.invokevirtual 116, 3) := by decide +kernel
theorem dX11_log_49 : decode cX11_log 49 = .ok (.ifCond .eq 16, 3) := by decide +kernel
theorem dX11_log_52 : decode cX11_log 52 = .ok (.aload_n 0, 1) := by decide +kernel
theorem dX11_log_53 : decode cX11_log 53 = .ok (.getfield 28, 3) := by decide +kernel
theorem dX11_log_56 : decode cX11_log 56 = .ok (.getfield 120, 3) := by decide +kernel
theorem dX11_log_59 : decode cX11_log 59 = .ok (.getfield 124, 3) := by decide +kernel
theorem dX11_log_62 : decode cX11_log 62 = .ok (.goto 5, 3) := by decide +kernel
theorem dX11_log_65 : decode cX11_log 65 = .ok (.bipush (-3), 2) := by decide +kernel
theorem dX11_log_67 : decode cX11_log 67 = .ok (.istore 4, 2) := by decide +kernel
theorem dX11_log_69 : decode cX11_log 69 = .ok (.aload_n 0, 1) := by decide +kernel
theorem dX11_log_70 : decode cX11_log 70 = .ok (.getfield 10, 3) := by decide +kernel
theorem dX11_log_73 : decode cX11_log 73 = .ok (.iconst 0, 1) := by decide +kernel
theorem dX11_log_74 : decode cX11_log 74 = .ok (.putfield 74, 3) := by decide +kernel
theorem dX11_log_77 : decode cX11_log 77 = .ok (.aload_n 3, 1) := by decide +kernel
theorem dX11_log_78 : decode cX11_log 78 = .ok (.ifnull 8, 3) := by decide +kernel
theorem dX11_log_81 : decode cX11_log 81 = .ok (.iload 4, 2) := by decide +kernel
theorem dX11_log_83 : decode cX11_log 83 = .ok (.ifCond .ge 14, 3) := by decide +kernel
theorem dX11_log_86 : decode cX11_log 86 = .ok (.aload_n 0, 1) := by decide +kernel
theorem dX11_log_87 : decode cX11_log 87 = .ok (.getfield 28, 3) := by decide +kernel
theorem dX11_log_90 : decode cX11_log 90 = .ok (.iconst 0, 1) := by decide +kernel
theorem dX11_log_91 : decode cX11_log 91 = .ok (.putfield 127, 3) := by decide +kernel
theorem dX11_log_94 : decode cX11_log 94 = .ok (.iload 4, 2) := by decide +kernel
theorem dX11_log_96 : decode cX11_log 96 = .ok (.ireturn, 1) := by decide +kernel
theorem dX11_log_97 : decode cX11_log 97 = .ok (.aload_n 0, 1) := by decide +kernel
theorem dX11_log_98 : decode cX11_log 98 = .ok (.getfield 28, 3) := by decide +kernel
theorem dX11_log_101 : decode cX11_log 101 = .ok (.aload_n 3, 1) := by decide +kernel
theorem dX11_log_102 : decode cX11_log 102 = .ok (.iload_n 2, 1) := by decide +kernel
theorem dX11_log_103 : decode cX11_log 103 = .ok (.aload_n 0, 1) := by decide +kernel
theorem dX11_log_104 : decode cX11_log 104 = .ok (.getfield 28, 3) := by decide +kernel
theorem dX11_log_107 : decode cX11_log 107 = .ok (.getfield 120, 3) := by decide +kernel
theorem dX11_log_110 : decode cX11_log 110 = .ok (.invokevirtual 130, 3) := by decide +kernel
theorem dX11_log_113 : decode cX11_log 113 = .ok (.putfield 120, 3) := by decide +kernel
theorem dX11_log_116 : decode cX11_log 116 = .ok (.aload_n 0, 1) := by decide +kernel
theorem dX11_log_117 : decode cX11_log 117 = .ok (.getfield 44, 3) := by decide +kernel
theorem dX11_log_120 : decode cX11_log 120 = .ok (.iconst 0, 1) := by decide +kernel
theorem dX11_log_121 : decode cX11_log 121 = .ok (.putfield 91, 3) := by decide +kernel
theorem dX11_log_124 : decode cX11_log 124 = .ok (.iload 4, 2) := by decide +kernel
theorem dX11_log_126 : decode cX11_log 126 = .ok (.ireturn, 1) := by decide +kernel
theorem dX11_wrong_0 : decode cX11_wrong 0 = .ok (.iload_n 1, 1) := by decide +kernel
theorem dX11_wrong_1 : decode cX11_wrong 1 = .ok (.aload_n 0, 1) := by decide +kernel
theorem dX11_wrong_2 : decode cX11_wrong 2 = .ok (.getfield 28, 3) := by decide +kernel
theorem dX11_wrong_5 : decode cX11_wrong 5 = .ok (.getfield 127, 3) := by decide +kernel
theorem dX11_wrong_8 : decode cX11_wrong 8 = .ok (.invokestatic 82, 3) := by decide +kernel
theorem dX11_wrong_11 : decode cX11_wrong 11 = .ok (.ifCond .eq 15, 3) := by decide +kernel
theorem dX11_wrong_14 : decode cX11_wrong 14 = .ok (.aload_n 0, 1) := by decide +kernel
theorem dX11_wrong_15 : decode cX11_wrong 15 = .ok (.getfield 28, 3) := by decide +kernel
theorem dX11_wrong_18 : decode cX11_wrong 18 = .ok (.getfield 134, 3) := by decide +kernel
theorem dX11_wrong_21 : decode cX11_wrong 21 = .ok (.iload_n 1, 1) := by decide +kernel
theorem dX11_wrong_22 : decode cX11_wrong 22 = .ok (.iaload, 1) := by decide +kernel
theorem dX11_wrong_23 : decode cX11_wrong 23 = .ok (.goto 4, 3) := by decide +kernel
theorem dX11_wrong_26 : decode cX11_wrong 26 = .ok (.iconst (-1), 1) := by decide +kernel
theorem dX11_wrong_27 : decode cX11_wrong 27 = .ok (.ireturn, 1) := by decide +kernel
theorem dX11_rule_0 : decode cX11_rule 0 = .ok (.aload_n 0, 1) := by decide +kernel
theorem dX11_rule_1 : decode cX11_rule 1 = .ok (.getfield 35, 3) := by decide +kernel
theorem dX11_rule_4 : decode cX11_rule 4 = .ok (.aload_n 0, 1) := by decide +kernel
theorem dX11_rule_5 : decode cX11_rule 5 = .ok (.getfield 10, 3) := by decide +kernel
theorem dX11_rule_8 : decode cX11_rule 8 = .ok (.invokevirtual 137, 3) := by decide +kernel
theorem dX11_rule_11 : decode cX11_rule 11 = .ok (.istore_n 1, 1) := by decide +kernel
theorem dX11_rule_12 : decode cX11_rule 12 = .ok (.aload_n 0, 1) := by decide +kernel
theorem dX11_rule_13 : decode cX11_rule 13 = .ok (.getfield 10, 3) := by decide +kernel
theorem dX11_rule_16 : decode cX11_rule 16 = .ok (.iconst 0, 1) := by decide +kernel
theorem dX11_rule_17 : decode cX11_rule 17 = .ok (.putfield 74, 3) := by decide +kernel
theorem dX11_rule_20 : decode cX11_rule 20 = .ok (.iload_n 1, 1) := by decide +kernel
theorem dX11_rule_21 : decode cX11_rule 21 = .ok (.ireturn, 1) := by decide +kernel
theorem dX11_window_0 : decode cX11_window 0 = .ok (.iload_n 1, 1) := by decide +kernel
theorem dX11_window_1 : decode cX11_window 1 = .ok (.sipush 3601, 3) := by decide +kernel
theorem dX11_window_4 : decode cX11_window 4 = .ok (.invokestatic 82, 3) := by decide +kernel
theorem dX11_window_7 : decode cX11_window 7 = .ok (.ifCond .ne 5, 3) := by decide +kernel
theorem dX11_window_10 : decode cX11_window 10 = .ok (.iconst (-1), 1) := by decide +kernel
theorem dX11_window_11 : decode cX11_window 11 = .ok (.ireturn, 1) := by decide +kernel
theorem dX11_window_12 : decode cX11_window 12 = .ok (.aload_n 0, 1) := by decide +kernel
theorem dX11_window_13 : decode cX11_window 13 = .ok (.getfield 44, 3) := by decide +kernel
theorem dX11_window_16 : decode cX11_window 16 = .ok (.iload_n 1, 1) := by decide +kernel
theorem dX11_window_17 : decode cX11_window 17 = .ok (.invokevirtual 141, 3) := by decide +kernel
theorem dX11_window_20 : decode cX11_window 20 = .ok (.iconst 1, 1) := by decide +kernel
theorem dX11_window_21 : decode cX11_window 21 = .ok (.ireturn, 1) := by decide +kernel
theorem dX11_penalty_0 : decode cX11_penalty 0 = .ok (.iload_n 1, 1) := by decide +kernel
theorem dX11_penalty_1 : decode cX11_penalty 1 = .ok (.sipush 1001, 3) := by decide +kernel
theorem dX11_penalty_4 : decode cX11_penalty 4 = .ok (.invokestatic 82, 3) := by decide +kernel
theorem dX11_penalty_7 : decode cX11_penalty 7 = .ok (.ifCond .ne 5, 3) := by decide +kernel
theorem dX11_penalty_10 : decode cX11_penalty 10 = .ok (.iconst (-1), 1) := by decide +kernel
theorem dX11_penalty_11 : decode cX11_penalty 11 = .ok (.ireturn, 1) := by decide +kernel
theorem dX11_penalty_12 : decode cX11_penalty 12 = .ok (.aload_n 0, 1) := by decide +kernel
theorem dX11_penalty_13 : decode cX11_penalty 13 = .ok (.getfield 53, 3) := by decide +kernel
theorem dX11_penalty_16 : decode cX11_penalty 16 = .ok (.iload_n 1, 1) := by decide +kernel
theorem dX11_penalty_17 : decode cX11_penalty 17 = .ok (.putfield 144, 3) := by decide +kernel
theorem dX11_penalty_20 : decode cX11_penalty 20 = .ok (.iconst 1, 1) := by decide +kernel
theorem dX11_penalty_21 : decode cX11_penalty 21 = .ok (.ireturn, 1) := by decide +kernel
theorem dX11_lines_0 : decode cX11_lines 0 = .ok (.aload_n 0, 1) := by decide +kernel
theorem dX11_lines_1 : decode cX11_lines 1 = .ok (.iload_n 1, 1) := by decide +kernel
theorem dX11_lines_2 : decode cX11_lines 2 = .ok (.iload_n 2, 1) := by decide +kernel
theorem dX11_lines_3 : decode cX11_lines 3 = .ok (.invokevirtual 147, 3) := by decide +kernel
theorem dX11_lines_6 : decode cX11_lines 6 = .ok (.astore_n 3, 1) := by decide +kernel
theorem dX11_lines_7 : decode cX11_lines 7 = .ok (.aload_n 0, 1) := by decide +kernel
theorem dX11_lines_8 : decode cX11_lines 8 = .ok (.aload_n 3, 1) := by decide +kernel
theorem dX11_lines_9 : decode cX11_lines 9 = .ok (.ifnonnull 7, 3) := by decide +kernel
theorem dX11_lines_12 : decode cX11_lines 12 = .ok (.lconst 0, 1) := by decide +kernel
theorem dX11_lines_13 : decode cX11_lines 13 = .ok (.goto 8, 3) := by decide +kernel
theorem dX11_lines_16 : decode cX11_lines 16 = .ok (.aload_n 3, 1) := by decide +kernel
theorem dX11_lines_17 : decode cX11_lines 17 = .ok (.getfield 124, 3) := by decide +kernel
theorem dX11_lines_20 : decode cX11_lines 20 = .ok (.i2l, 1) := by decide +kernel
theorem dX11_lines_21 : decode cX11_lines 21 = .ok (.invokevirtual 151, 3) := by decide +kernel
theorem dX11_lines_24 : decode cX11_lines 24 = .ok (.l2i, 1) := by decide +kernel
theorem dX11_lines_25 : decode cX11_lines 25 = .ok (.ireturn, 1) := by decide +kernel
theorem dX11_entry_0 : decode cX11_entry 0 = .ok (.aload_n 0, 1) := by decide +kernel
theorem dX11_entry_1 : decode cX11_entry 1 = .ok (.iload_n 1, 1) := by decide +kernel
theorem dX11_entry_2 : decode cX11_entry 2 = .ok (.iload_n 2, 1) := by decide +kernel
theorem dX11_entry_3 : decode cX11_entry 3 = .ok (.iload_n 3, 1) := by decide +kernel
theorem dX11_entry_4 : decode cX11_entry 4 = .ok (.invokevirtual 155, 3) := by decide +kernel
theorem dX11_entry_7 : decode cX11_entry 7 = .ok (.astore 4, 2) := by decide +kernel
theorem dX11_entry_9 : decode cX11_entry 9 = .ok (.aload_n 0, 1) := by decide +kernel
theorem dX11_entry_10 : decode cX11_entry 10 = .ok (.aload 4, 2) := by decide +kernel
theorem dX11_entry_12 : decode cX11_entry 12 = .ok (.ifnonnull 7, 3) := by decide +kernel
theorem dX11_entry_15 : decode cX11_entry 15 = .ok (.lconst 0, 1) := by decide +kernel
theorem dX11_entry_16 : decode cX11_entry 16 = .ok (.goto 9, 3) := by decide +kernel
theorem dX11_entry_19 : decode cX11_entry 19 = .ok (.aload 4, 2) := by decide +kernel
theorem dX11_entry_21 : decode cX11_entry 21 = .ok (.getfield 159, 3) := by decide +kernel
theorem dX11_entry_24 : decode cX11_entry 24 = .ok (.i2l, 1) := by decide +kernel
theorem dX11_entry_25 : decode cX11_entry 25 = .ok (.invokevirtual 151, 3) := by decide +kernel
theorem dX11_entry_28 : decode cX11_entry 28 = .ok (.l2i, 1) := by decide +kernel
theorem dX11_entry_29 : decode cX11_entry 29 = .ok (.ireturn, 1) := by decide +kernel
theorem dX11_moment_0 : decode cX11_moment 0 = .ok (.aload_n 0, 1) := by decide +kernel
theorem dX11_moment_1 : decode cX11_moment 1 = .ok (.iload_n 1, 1) := by decide +kernel
theorem dX11_moment_2 : decode cX11_moment 2 = .ok (.iload_n 2, 1) := by decide +kernel
theorem dX11_moment_3 : decode cX11_moment 3 = .ok (.iload_n 3, 1) := by decide +kernel
theorem dX11_moment_4 : decode cX11_moment 4 = .ok (.invokevirtual 155, 3) := by decide +kernel
theorem dX11_moment_7 : decode cX11_moment 7 = .ok (.astore 5, 2) := by decide +kernel
theorem dX11_moment_9 : decode cX11_moment 9 = .ok (.aload 5, 2) := by decide +kernel
theorem dX11_moment_11 : decode cX11_moment 11 = .ok (.ifnonnull 9, 3) := by decide +kernel
theorem dX11_moment_14 : decode cX11_moment 14 = .ok (.aload_n 0, 1) := by decide +kernel
theorem dX11_moment_15 : decode cX11_moment 15 = .ok (.lconst 0, 1) := by decide +kernel
theorem dX11_moment_16 : decode cX11_moment 16 = .ok (.invokevirtual 151, 3) := by decide +kernel
theorem dX11_moment_19 : decode cX11_moment 19 = .ok (.lreturn, 1) := by decide +kernel
theorem dX11_moment_20 : decode cX11_moment 20 = .ok (.aload 5, 2) := by decide +kernel
theorem dX11_moment_22 : decode cX11_moment 22 = .ok (.getfield 159, 3) := by decide +kernel
theorem dX11_moment_25 : decode cX11_moment 25 = .ok (.iconst 2, 1) := by decide +kernel
theorem dX11_moment_26 : decode cX11_moment 26 = .ok (.if_icmp .ne 9, 3) := by decide +kernel
theorem dX11_moment_29 : decode cX11_moment 29 = .ok (.aload_n 0, 1) := by decide +kernel
theorem dX11_moment_30 : decode cX11_moment 30 = .ok (.iconst 3, 1) := by decide +kernel
theorem dX11_moment_31 : decode cX11_moment 31 = .ok (.invokevirtual 162, 3) := by decide +kernel
theorem dX11_moment_34 : decode cX11_moment 34 = .ok (.lreturn, 1) := by decide +kernel
theorem dX11_moment_35 : decode cX11_moment 35 = .ok (.iload 4, 2) := by decide +kernel
theorem dX11_moment_37 : decode cX11_moment 37 = .ok (.iconst 1, 1) := by decide +kernel
theorem dX11_moment_38 : decode cX11_moment 38 = .ok (.if_icmp .ne 22, 3) := by decide +kernel
theorem dX11_moment_41 : decode cX11_moment 41 = .ok (.aload 5, 2) := by decide +kernel
theorem dX11_moment_43 : decode cX11_moment 43 = .ok (.getfield 159, 3) := by decide +kernel
theorem dX11_moment_46 : decode cX11_moment 46 = .ok (.iconst 1, 1) := by decide +kernel
theorem dX11_moment_47 : decode cX11_moment 47 = .ok (.if_icmp .ne 13, 3) := by decide +kernel
theorem dX11_moment_50 : decode cX11_moment 50 = .ok (.aload_n 0, 1) := by decide +kernel
theorem dX11_moment_51 : decode cX11_moment 51 = .ok (.aload 5, 2) := by decide +kernel
theorem dX11_moment_53 : decode cX11_moment 53 = .ok (.getfield 166, 3) := by decide +kernel
theorem dX11_moment_56 : decode cX11_moment 56 = .ok (.invokevirtual 151, 3) := by decide +kernel
theorem dX11_moment_59 : decode cX11_moment 59 = .ok (.lreturn, 1) := by decide +kernel
theorem dX11_moment_60 : decode cX11_moment 60 = .ok (.iload 4, 2) := by decide +kernel
theorem dX11_moment_62 : decode cX11_moment 62 = .ok (.ifCond .ne 15, 3) := by decide +kernel
theorem dX11_moment_65 : decode cX11_moment 65 = .ok (.aload_n 0, 1) := by decide +kernel
theorem dX11_moment_66 : decode cX11_moment 66 = .ok (.aload 5, 2) := by decide +kernel
theorem dX11_moment_68 : decode cX11_moment 68 = .ok (.getfield 170, 3) := by decide +kernel
theorem dX11_moment_71 : decode cX11_moment 71 = .ok (.invokevirtual 151, 3) := by decide +kernel
theorem dX11_moment_74 : decode cX11_moment 74 = .ok (.goto 8, 3) := by decide +kernel
theorem dX11_moment_77 : decode cX11_moment 77 = .ok (.aload_n 0, 1) := by decide +kernel
theorem dX11_moment_78 : decode cX11_moment 78 = .ok (.iconst 2, 1) := by decide +kernel
theorem dX11_moment_79 : decode cX11_moment 79 = .ok (.invokevirtual 162, 3) := by decide +kernel
theorem dX11_moment_82 : decode cX11_moment 82 = .ok (.lreturn, 1) := by decide +kernel
theorem dX11_character_0 : decode cX11_character 0 = .ok (.aload_n 0, 1) := by decide +kernel
theorem dX11_character_1 : decode cX11_character 1 = .ok (.iload_n 1, 1) := by decide +kernel
theorem dX11_character_2 : decode cX11_character 2 = .ok (.iload_n 2, 1) := by decide +kernel
theorem dX11_character_3 : decode cX11_character 3 = .ok (.iload_n 3, 1) := by decide +kernel
theorem dX11_character_4 : decode cX11_character 4 = .ok (.invokevirtual 173, 3) := by decide +kernel
theorem dX11_character_7 : decode cX11_character 7 = .ok (.astore 5, 2) := by decide +kernel
theorem dX11_character_9 : decode cX11_character 9 = .ok (.aload 5, 2) := by decide +kernel
theorem dX11_character_11 : decode cX11_character 11 = .ok (.ifnonnull 10, 3) := by decide +kernel
theorem dX11_character_14 : decode cX11_character 14 = .ok (.aload_n 0, 1) := by decide +kernel
theorem dX11_character_15 : decode cX11_character 15 = .ok (.lconst 0, 1) := by decide +kernel
theorem dX11_character_16 : decode cX11_character 16 = .ok (.invokevirtual 151, 3) := by decide +kernel
theorem dX11_character_19 : decode cX11_character 19 = .ok (.l2i, 1) := by decide +kernel
theorem dX11_character_20 : decode cX11_character 20 = .ok (.ireturn, 1) := by decide +kernel
theorem dX11_character_21 : decode cX11_character 21 = .ok (.iload 4, 2) := by decide +kernel
theorem dX11_character_23 : decode cX11_character 23 = .ok (.aload 5, 2) := by decide +kernel
theorem dX11_character_25 : decode cX11_character 25 = .ok (.invokevirtual 176, 3) := by decide +kernel
theorem dX11_character_28 : decode cX11_character 28 = .ok (.invokestatic 82, 3) := by decide +kernel
theorem dX11_character_31 : decode cX11_character 31 = .ok (.ifCond .ne 10, 3) := by decide +kernel
theorem dX11_character_34 : decode cX11_character 34 = .ok (.aload_n 0, 1) := by decide +kernel
theorem dX11_character_35 : decode cX11_character 35 = .ok (.iconst 2, 1) := by decide +kernel
theorem dX11_character_36 : decode cX11_character 36 = .ok (.invokevirtual 162, 3) := by decide +kernel
theorem dX11_character_39 : decode cX11_character 39 = .ok (.l2i, 1) := by decide +kernel
theorem dX11_character_40 : decode cX11_character 40 = .ok (.ireturn, 1) := by decide +kernel
theorem dX11_character_41 : decode cX11_character 41 = .ok (.aload_n 0, 1) := by decide +kernel
theorem dX11_character_42 : decode cX11_character 42 = .ok (.aload 5, 2) := by decide +kernel
theorem dX11_character_44 : decode cX11_character 44 = .ok (.iload 4, 2) := by decide +kernel
theorem dX11_character_46 : decode cX11_character 46 = .ok (.invokevirtual 180, 3) := by decide +kernel
theorem dX11_character_49 : decode cX11_character 49 = .ok (.i2l, 1) := by decide +kernel
theorem dX11_character_50 : decode cX11_character 50 = .ok (.invokevirtual 151, 3) := by decide +kernel
theorem dX11_character_53 : decode cX11_character 53 = .ok (.l2i, 1) := by decide +kernel
theorem dX11_character_54 : decode cX11_character 54 = .ok (.ireturn, 1) := by decide +kernel
theorem dX11_number_0 : decode cX11_number 0 = .ok (.aload_n 0, 1) := by decide +kernel
theorem dX11_number_1 : decode cX11_number 1 = .ok (.iload_n 1, 1) := by decide +kernel
theorem dX11_number_2 : decode cX11_number 2 = .ok (.iload_n 2, 1) := by decide +kernel
theorem dX11_number_3 : decode cX11_number 3 = .ok (.iload_n 3, 1) := by decide +kernel
theorem dX11_number_4 : decode cX11_number 4 = .ok (.invokevirtual 173, 3) := by decide +kernel
theorem dX11_number_7 : decode cX11_number 7 = .ok (.astore 5, 2) := by decide +kernel
theorem dX11_number_9 : decode cX11_number 9 = .ok (.aload 5, 2) := by decide +kernel
theorem dX11_number_11 : decode cX11_number 11 = .ok (.ifnonnull 10, 3) := by decide +kernel
theorem dX11_number_14 : decode cX11_number 14 = .ok (.aload_n 0, 1) := by decide +kernel
theorem dX11_number_15 : decode cX11_number 15 = .ok (.lconst 0, 1) := by decide +kernel
theorem dX11_number_16 : decode cX11_number 16 = .ok (.invokevirtual 151, 3) := by decide +kernel
theorem dX11_number_19 : decode cX11_number 19 = .ok (.l2i, 1) := by decide +kernel
theorem dX11_number_20 : decode cX11_number 20 = .ok (.ireturn, 1) := by decide +kernel
theorem dX11_number_21 : decode cX11_number 21 = .ok (.iload 4, 2) := by decide +kernel
theorem dX11_number_23 : decode cX11_number 23 = .ok (.ifCond .ne 11, 3) := by decide +kernel
theorem dX11_number_26 : decode cX11_number 26 = .ok (.aload 5, 2) := by decide +kernel
theorem dX11_number_28 : decode cX11_number 28 = .ok (.getfield 184, 3) := by decide +kernel
theorem dX11_number_31 : decode cX11_number 31 = .ok (.goto 18, 3) := by decide +kernel
theorem dX11_number_34 : decode cX11_number 34 = .ok (.iload 4, 2) := by decide +kernel
theorem dX11_number_36 : decode cX11_number 36 = .ok (.iconst 1, 1) := by decide +kernel
theorem dX11_number_37 : decode cX11_number 37 = .ok (.if_icmp .ne 11, 3) := by decide +kernel
theorem dX11_number_40 : decode cX11_number 40 = .ok (.aload 5, 2) := by decide +kernel
theorem dX11_number_42 : decode cX11_number 42 = .ok (.getfield 187, 3) := by decide +kernel
theorem dX11_number_45 : decode cX11_number 45 = .ok (.goto 4, 3) := by decide +kernel
theorem dX11_number_48 : decode cX11_number 48 = .ok (.iconst (-1), 1) := by decide +kernel
theorem dX11_number_49 : decode cX11_number 49 = .ok (.istore 6, 2) := by decide +kernel
theorem dX11_number_51 : decode cX11_number 51 = .ok (.iload 6, 2) := by decide +kernel
theorem dX11_number_53 : decode cX11_number 53 = .ok (.iconst (-1), 1) := by decide +kernel
theorem dX11_number_54 : decode cX11_number 54 = .ok (.if_icmp .ne 11, 3) := by decide +kernel
theorem dX11_number_57 : decode cX11_number 57 = .ok (.aload_n 0, 1) := by decide +kernel
theorem dX11_number_58 : decode cX11_number 58 = .ok (.iconst 2, 1) := by decide +kernel
theorem dX11_number_59 : decode cX11_number 59 = .ok (.invokevirtual 162, 3) := by decide +kernel
theorem dX11_number_62 : decode cX11_number 62 = .ok (.goto 10, 3) := by decide +kernel
theorem dX11_number_65 : decode cX11_number 65 = .ok (.aload_n 0, 1) := by decide +kernel
theorem dX11_number_66 : decode cX11_number 66 = .ok (.iload 6, 2) := by decide +kernel
theorem dX11_number_68 : decode cX11_number 68 = .ok (.i2l, 1) := by decide +kernel
theorem dX11_number_69 : decode cX11_number 69 = .ok (.invokevirtual 151, 3) := by decide +kernel
theorem dX11_number_72 : decode cX11_number 72 = .ok (.l2i, 1) := by decide +kernel
theorem dX11_number_73 : decode cX11_number 73 = .ok (.ireturn, 1) := by decide +kernel
theorem dX11_offset_0 : decode cX11_offset 0 = .ok (.aload_n 0, 1) := by decide +kernel
theorem dX11_offset_1 : decode cX11_offset 1 = .ok (.getfield 44, 3) := by decide +kernel
theorem dX11_offset_4 : decode cX11_offset 4 = .ok (.invokevirtual 190, 3) := by decide +kernel
theorem dX11_offset_7 : decode cX11_offset 7 = .ok (.aload_n 0, 1) := by decide +kernel
theorem dX11_offset_8 : decode cX11_offset 8 = .ok (.iload_n 1, 1) := by decide +kernel
theorem dX11_offset_9 : decode cX11_offset 9 = .ok (.invokevirtual 193, 3) := by decide +kernel
theorem dX11_offset_12 : decode cX11_offset 12 = .ok (.astore_n 2, 1) := by decide +kernel
theorem dX11_offset_13 : decode cX11_offset 13 = .ok (.aload_n 0, 1) := by decide +kernel
theorem dX11_offset_14 : decode cX11_offset 14 = .ok (.aload_n 2, 1) := by decide +kernel
theorem dX11_offset_15 : decode cX11_offset 15 = .ok (.ifnonnull 7, 3) := by decide +kernel
theorem dX11_offset_18 : decode cX11_offset 18 = .ok (.lconst 0, 1) := by decide +kernel
theorem dX11_offset_19 : decode cX11_offset 19 = .ok (.goto 7, 3) := by decide +kernel
theorem dX11_offset_22 : decode cX11_offset 22 = .ok (.aload_n 2, 1) := by decide +kernel
theorem dX11_offset_23 : decode cX11_offset 23 = .ok (.getfield 196, 3) := by decide +kernel
theorem dX11_offset_26 : decode cX11_offset 26 = .ok (.invokevirtual 151, 3) := by decide +kernel
theorem dX11_offset_29 : decode cX11_offset 29 = .ok (.lreturn, 1) := by decide +kernel
theorem dX11_pair_0 : decode cX11_pair 0 = .ok (.aload_n 0, 1) := by decide +kernel
theorem dX11_pair_1 : decode cX11_pair 1 = .ok (.getfield 44, 3) := by decide +kernel
theorem dX11_pair_4 : decode cX11_pair 4 = .ok (.invokevirtual 190, 3) := by decide +kernel
theorem dX11_pair_7 : decode cX11_pair 7 = .ok (.aload_n 0, 1) := by decide +kernel
theorem dX11_pair_8 : decode cX11_pair 8 = .ok (.iload_n 1, 1) := by decide +kernel
theorem dX11_pair_9 : decode cX11_pair 9 = .ok (.iload_n 2, 1) := by decide +kernel
theorem dX11_pair_10 : decode cX11_pair 10 = .ok (.iload_n 3, 1) := by decide +kernel
theorem dX11_pair_11 : decode cX11_pair 11 = .ok (.invokevirtual 173, 3) := by decide +kernel
theorem dX11_pair_14 : decode cX11_pair 14 = .ok (.astore 4, 2) := by decide +kernel
theorem dX11_pair_16 : decode cX11_pair 16 = .ok (.aload 4, 2) := by decide +kernel
theorem dX11_pair_18 : decode cX11_pair 18 = .ok (.ifnonnull 10, 3) := by decide +kernel
theorem dX11_pair_21 : decode cX11_pair 21 = .ok (.aload_n 0, 1) := by decide +kernel
theorem dX11_pair_22 : decode cX11_pair 22 = .ok (.lconst 0, 1) := by decide +kernel
theorem dX11_pair_23 : decode cX11_pair 23 = .ok (.invokevirtual 151, 3) := by decide +kernel
theorem dX11_pair_26 : decode cX11_pair 26 = .ok (.l2i, 1) := by decide +kernel
theorem dX11_pair_27 : decode cX11_pair 27 = .ok (.ireturn, 1) := by decide +kernel
theorem dX11_pair_28 : decode cX11_pair 28 = .ok (.aload_n 0, 1) := by decide +kernel
theorem dX11_pair_29 : decode cX11_pair 29 = .ok (.aload 4, 2) := by decide +kernel
theorem dX11_pair_31 : decode cX11_pair 31 = .ok (.invokevirtual 199, 3) := by decide +kernel
theorem dX11_pair_34 : decode cX11_pair 34 = .ok (.ifCond .eq 21, 3) := by decide +kernel
theorem dX11_pair_37 : decode cX11_pair 37 = .ok (.bipush 100, 2) := by decide +kernel
theorem dX11_pair_39 : decode cX11_pair 39 = .ok (.aload 4, 2) := by decide +kernel
theorem dX11_pair_41 : decode cX11_pair 41 = .ok (.getfield 202, 3) := by decide +kernel
theorem dX11_pair_44 : decode cX11_pair 44 = .ok (.imul, 1) := by decide +kernel
theorem dX11_pair_45 : decode cX11_pair 45 = .ok (.aload 4, 2) := by decide +kernel
theorem dX11_pair_47 : decode cX11_pair 47 = .ok (.getfield 205, 3) := by decide +kernel
theorem dX11_pair_50 : decode cX11_pair 50 = .ok (.iadd, 1) := by decide +kernel
theorem dX11_pair_51 : decode cX11_pair 51 = .ok (.i2l, 1) := by decide +kernel
theorem dX11_pair_52 : decode cX11_pair 52 = .ok (.goto 6, 3) := by decide +kernel
theorem dX11_pair_55 : decode cX11_pair 55 = .ok (.ldc2_w 208, 3) := by decide +kernel
theorem dX11_pair_58 : decode cX11_pair 58 = .ok (.invokevirtual 151, 3) := by decide +kernel
theorem dX11_pair_61 : decode cX11_pair 61 = .ok (.l2i, 1) := by decide +kernel
theorem dX11_pair_62 : decode cX11_pair 62 = .ok (.ireturn, 1) := by decide +kernel
theorem dX11_why_0 : decode cX11_why 0 = .ok (.aload_n 0, 1) := by decide +kernel
theorem dX11_why_1 : decode cX11_why 1 = .ok (.getfield 44, 3) := by decide +kernel
theorem dX11_why_4 : decode cX11_why 4 = .ok (.invokevirtual 190, 3) := by decide +kernel
theorem dX11_why_7 : decode cX11_why 7 = .ok (.aload_n 0, 1) := by decide +kernel
theorem dX11_why_8 : decode cX11_why 8 = .ok (.iload_n 1, 1) := by decide +kernel
theorem dX11_why_9 : decode cX11_why 9 = .ok (.iload_n 2, 1) := by decide +kernel
theorem dX11_why_10 : decode cX11_why 10 = .ok (.iload_n 3, 1) := by decide +kernel
theorem dX11_why_11 : decode cX11_why 11 = .ok (.invokevirtual 173, 3) := by decide +kernel
theorem dX11_why_14 : decode cX11_why 14 = .ok (.astore 4, 2) := by decide +kernel
theorem dX11_why_16 : decode cX11_why 16 = .ok (.aload_n 0, 1) := by decide +kernel
theorem dX11_why_17 : decode cX11_why 17 = .ok (.aload 4, 2) := by decide +kernel
theorem dX11_why_19 : decode cX11_why 19 = .ok (.ifnonnull 7, 3) := by decide +kernel
theorem dX11_why_22 : decode cX11_why 22 = .ok (.lconst 0, 1) := by decide +kernel
theorem dX11_why_23 : decode cX11_why 23 = .ok (.goto 9, 3) := by decide +kernel
theorem dX11_why_26 : decode cX11_why 26 = .ok (.aload 4, 2) := by decide +kernel
theorem dX11_why_28 : decode cX11_why 28 = .ok (.getfield 210, 3) := by decide +kernel
theorem dX11_why_31 : decode cX11_why 31 = .ok (.i2l, 1) := by decide +kernel
theorem dX11_why_32 : decode cX11_why 32 = .ok (.invokevirtual 151, 3) := by decide +kernel
theorem dX11_why_35 : decode cX11_why 35 = .ok (.l2i, 1) := by decide +kernel
theorem dX11_why_36 : decode cX11_why 36 = .ok (.ireturn, 1) := by decide +kernel
theorem dX11_meant_0 : decode cX11_meant 0 = .ok (.aload_n 0, 1) := by decide +kernel
theorem dX11_meant_1 : decode cX11_meant 1 = .ok (.getfield 44, 3) := by decide +kernel
theorem dX11_meant_4 : decode cX11_meant 4 = .ok (.invokevirtual 190, 3) := by decide +kernel
theorem dX11_meant_7 : decode cX11_meant 7 = .ok (.aload_n 0, 1) := by decide +kernel
theorem dX11_meant_8 : decode cX11_meant 8 = .ok (.iload_n 1, 1) := by decide +kernel
theorem dX11_meant_9 : decode cX11_meant 9 = .ok (.iload_n 2, 1) := by decide +kernel
theorem dX11_meant_10 : decode cX11_meant 10 = .ok (.iload_n 3, 1) := by decide +kernel
theorem dX11_meant_11 : decode cX11_meant 11 = .ok (.invokevirtual 173, 3) := by decide +kernel
theorem dX11_meant_14 : decode cX11_meant 14 = .ok (.astore 4, 2) := by decide +kernel
theorem dX11_meant_16 : decode cX11_meant 16 = .ok (.aload_n 0, 1) := by decide +kernel
theorem dX11_meant_17 : decode cX11_meant 17 = .ok (.aload 4, 2) := by decide +kernel
theorem dX11_meant_19 : decode cX11_meant 19 = .ok (.ifnonnull 7, 3) := by decide +kernel
theorem dX11_meant_22 : decode cX11_meant 22 = .ok (.lconst 0, 1) := by decide +kernel
theorem dX11_meant_23 : decode cX11_meant 23 = .ok (.goto 9, 3) := by decide +kernel
theorem dX11_meant_26 : decode cX11_meant 26 = .ok (.aload 4, 2) := by decide +kernel
theorem dX11_meant_28 : decode cX11_meant 28 = .ok (.getfield 213, 3) := by decide +kernel
theorem dX11_meant_31 : decode cX11_meant 31 = .ok (.i2l, 1) := by decide +kernel
theorem dX11_meant_32 : decode cX11_meant 32 = .ok (.invokevirtual 151, 3) := by decide +kernel
theorem dX11_meant_35 : decode cX11_meant 35 = .ok (.l2i, 1) := by decide +kernel
theorem dX11_meant_36 : decode cX11_meant 36 = .ok (.ireturn, 1) := by decide +kernel
theorem dX11_points_0 : decode cX11_points 0 = .ok (.aload_n 0, 1) := by decide +kernel
theorem dX11_points_1 : decode cX11_points 1 = .ok (.iload_n 1, 1) := by decide +kernel
theorem dX11_points_2 : decode cX11_points 2 = .ok (.iload_n 2, 1) := by decide +kernel
theorem dX11_points_3 : decode cX11_points 3 = .ok (.iload_n 3, 1) := by decide +kernel
theorem dX11_points_4 : decode cX11_points 4 = .ok (.invokevirtual 173, 3) := by decide +kernel
theorem dX11_points_7 : decode cX11_points 7 = .ok (.astore 4, 2) := by decide +kernel
theorem dX11_points_9 : decode cX11_points 9 = .ok (.aload_n 0, 1) := by decide +kernel
theorem dX11_points_10 : decode cX11_points 10 = .ok (.getfield 19, 3) := by decide +kernel
theorem dX11_points_13 : decode cX11_points 13 = .ok (.iload_n 1, 1) := by decide +kernel
theorem dX11_points_14 : decode cX11_points 14 = .ok (.invokevirtual 103, 3) := by decide +kernel
theorem dX11_points_17 : decode cX11_points 17 = .ok (.astore 5, 2) := by decide +kernel
theorem dX11_points_19 : decode cX11_points 19 = .ok (.aload 4, 2) := by decide +kernel
theorem dX11_points_21 : decode cX11_points 21 = .ok (.ifnull 8, 3) := by decide +kernel
theorem dX11_points_24 : decode cX11_points 24 = .ok (.aload 5, 2) := by decide +kernel
theorem dX11_points_26 : decode cX11_points 26 = .ok (.ifnonnull 10, 3) := by decide +kernel
theorem dX11_points_29 : decode cX11_points 29 = .ok (.aload_n 0, 1) := by decide +kernel
theorem dX11_points_30 : decode cX11_points 30 = .ok (.lconst 0, 1) := by decide +kernel
theorem dX11_points_31 : decode cX11_points 31 = .ok (.invokevirtual 151, 3) := by decide +kernel
theorem dX11_points_34 : decode cX11_points 34 = .ok (.l2i, 1) := by decide +kernel
theorem dX11_points_35 : decode cX11_points 35 = .ok (.ireturn, 1) := by decide +kernel
theorem dX11_points_36 : decode cX11_points 36 = .ok (.aload_n 0, 1) := by decide +kernel
theorem dX11_points_37 : decode cX11_points 37 = .ok (.aload_n 0, 1) := by decide +kernel
theorem dX11_points_38 : decode cX11_points 38 = .ok (.getfield 35, 3) := by decide +kernel
theorem dX11_points_41 : decode cX11_points 41 = .ok (.iload_n 2, 1) := by decide +kernel
theorem dX11_points_42 : decode cX11_points 42 = .ok (.aload 5, 2) := by decide +kernel
theorem dX11_points_44 : decode cX11_points 44 = .ok (.aload_n 0, 1) := by decide +kernel
theorem dX11_points_45 : decode cX11_points 45 = .ok (.getfield 19, 3) := by decide +kernel
theorem dX11_points_48 : decode cX11_points 48 = .ok (.aload_n 0, 1) := by decide +kernel
theorem dX11_points_49 : decode cX11_points 49 = .ok (.getfield 19, 3) := by decide +kernel
theorem dX11_points_52 : decode cX11_points 52 = .ok (.aload 4, 2) := by decide +kernel
theorem dX11_points_54 : decode cX11_points 54 = .ok (.getfield 216, 3) := by decide +kernel
theorem dX11_points_57 : decode cX11_points 57 = .ok (.invokevirtual 86, 3) := by decide +kernel
theorem dX11_points_60 : decode cX11_points 60 = .ok (.invokevirtual 103, 3) := by decide +kernel
theorem dX11_points_63 : decode cX11_points 63 = .ok (.invokevirtual 219, 3) := by decide +kernel
theorem dX11_points_66 : decode cX11_points 66 = .ok (.invokevirtual 223, 3) := by decide +kernel
theorem dX11_points_69 : decode cX11_points 69 = .ok (.l2i, 1) := by decide +kernel
theorem dX11_points_70 : decode cX11_points 70 = .ok (.ireturn, 1) := by decide +kernel
theorem dX11_total_0 : decode cX11_total 0 = .ok (.aload_n 0, 1) := by decide +kernel
theorem dX11_total_1 : decode cX11_total 1 = .ok (.getfield 44, 3) := by decide +kernel
theorem dX11_total_4 : decode cX11_total 4 = .ok (.invokevirtual 190, 3) := by decide +kernel
theorem dX11_total_7 : decode cX11_total 7 = .ok (.aload_n 0, 1) := by decide +kernel
theorem dX11_total_8 : decode cX11_total 8 = .ok (.iload_n 1, 1) := by decide +kernel
theorem dX11_total_9 : decode cX11_total 9 = .ok (.invokevirtual 226, 3) := by decide +kernel
theorem dX11_total_12 : decode cX11_total 12 = .ok (.astore_n 2, 1) := by decide +kernel
theorem dX11_total_13 : decode cX11_total 13 = .ok (.aload_n 0, 1) := by decide +kernel
theorem dX11_total_14 : decode cX11_total 14 = .ok (.aload_n 2, 1) := by decide +kernel
theorem dX11_total_15 : decode cX11_total 15 = .ok (.ifnonnull 7, 3) := by decide +kernel
theorem dX11_total_18 : decode cX11_total 18 = .ok (.lconst 0, 1) := by decide +kernel
theorem dX11_total_19 : decode cX11_total 19 = .ok (.goto 11, 3) := by decide +kernel
theorem dX11_total_22 : decode cX11_total 22 = .ok (.aload_n 0, 1) := by decide +kernel
theorem dX11_total_23 : decode cX11_total 23 = .ok (.getfield 53, 3) := by decide +kernel
theorem dX11_total_26 : decode cX11_total 26 = .ok (.iload_n 1, 1) := by decide +kernel
theorem dX11_total_27 : decode cX11_total 27 = .ok (.invokevirtual 229, 3) := by decide +kernel
theorem dX11_total_30 : decode cX11_total 30 = .ok (.invokevirtual 223, 3) := by decide +kernel
theorem dX11_total_33 : decode cX11_total 33 = .ok (.l2i, 1) := by decide +kernel
theorem dX11_total_34 : decode cX11_total 34 = .ok (.ireturn, 1) := by decide +kernel
theorem dX11_rate_0 : decode cX11_rate 0 = .ok (.aload_n 0, 1) := by decide +kernel
theorem dX11_rate_1 : decode cX11_rate 1 = .ok (.getfield 44, 3) := by decide +kernel
theorem dX11_rate_4 : decode cX11_rate 4 = .ok (.invokevirtual 190, 3) := by decide +kernel
theorem dX11_rate_7 : decode cX11_rate 7 = .ok (.aload_n 0, 1) := by decide +kernel
theorem dX11_rate_8 : decode cX11_rate 8 = .ok (.iload_n 1, 1) := by decide +kernel
theorem dX11_rate_9 : decode cX11_rate 9 = .ok (.invokevirtual 193, 3) := by decide +kernel
theorem dX11_rate_12 : decode cX11_rate 12 = .ok (.astore_n 2, 1) := by decide +kernel
theorem dX11_rate_13 : decode cX11_rate 13 = .ok (.aload_n 2, 1) := by decide +kernel
theorem dX11_rate_14 : decode cX11_rate 14 = .ok (.ifnonnull 9, 3) := by decide +kernel
theorem dX11_rate_17 : decode cX11_rate 17 = .ok (.aload_n 0, 1) := by decide +kernel
theorem dX11_rate_18 : decode cX11_rate 18 = .ok (.lconst 0, 1) := by decide +kernel
theorem dX11_rate_19 : decode cX11_rate 19 = .ok (.invokevirtual 151, 3) := by decide +kernel
theorem dX11_rate_22 : decode cX11_rate 22 = .ok (.lreturn, 1) := by decide +kernel
theorem dX11_rate_23 : decode cX11_rate 23 = .ok (.aload_n 2, 1) := by decide +kernel
theorem dX11_rate_24 : decode cX11_rate 24 = .ok (.invokevirtual 232, 3) := by decide +kernel
theorem dX11_rate_27 : decode cX11_rate 27 = .ok (.lstore_n 3, 1) := by decide +kernel
theorem dX11_rate_28 : decode cX11_rate 28 = .ok (.lload_n 3, 1) := by decide +kernel
theorem dX11_rate_29 : decode cX11_rate 29 = .ok (.lconst 0, 1) := by decide +kernel
theorem dX11_rate_30 : decode cX11_rate 30 = .ok (.lcmp, 1) := by decide +kernel
theorem dX11_rate_31 : decode cX11_rate 31 = .ok (.ifCond .ne 9, 3) := by decide +kernel
theorem dX11_rate_34 : decode cX11_rate 34 = .ok (.aload_n 0, 1) := by decide +kernel
theorem dX11_rate_35 : decode cX11_rate 35 = .ok (.iconst 5, 1) := by decide +kernel
theorem dX11_rate_36 : decode cX11_rate 36 = .ok (.invokevirtual 162, 3) := by decide +kernel
theorem dX11_rate_39 : decode cX11_rate 39 = .ok (.lreturn, 1) := by decide +kernel
theorem dX11_rate_40 : decode cX11_rate 40 = .ok (.aload_n 0, 1) := by decide +kernel
theorem dX11_rate_41 : decode cX11_rate 41 = .ok (.ldc2_w 236, 3) := by decide +kernel
theorem dX11_rate_44 : decode cX11_rate 44 = .ok (.aload_n 2, 1) := by decide +kernel
theorem dX11_rate_45 : decode cX11_rate 45 = .ok (.iconst 0, 1) := by decide +kernel
theorem dX11_rate_46 : decode cX11_rate 46 = .ok (.invokevirtual 238, 3) := by decide +kernel
theorem dX11_rate_49 : decode cX11_rate 49 = .ok (.i2l, 1) := by decide +kernel
theorem dX11_rate_50 : decode cX11_rate 50 = .ok (.lmul, 1) := by decide +kernel
theorem dX11_rate_51 : decode cX11_rate 51 = .ok (.lload_n 3, 1) := by decide +kernel
theorem dX11_rate_52 : decode cX11_rate 52 = .ok (.ldiv, 1) := by decide +kernel
theorem dX11_rate_53 : decode cX11_rate 53 = .ok (.invokevirtual 151, 3) := by decide +kernel
theorem dX11_rate_56 : decode cX11_rate 56 = .ok (.lreturn, 1) := by decide +kernel
theorem dX11_place_0 : decode cX11_place 0 = .ok (.aload_n 0, 1) := by decide +kernel
theorem dX11_place_1 : decode cX11_place 1 = .ok (.getfield 44, 3) := by decide +kernel
theorem dX11_place_4 : decode cX11_place 4 = .ok (.invokevirtual 190, 3) := by decide +kernel
theorem dX11_place_7 : decode cX11_place 7 = .ok (.aload_n 0, 1) := by decide +kernel
theorem dX11_place_8 : decode cX11_place 8 = .ok (.iload_n 1, 1) := by decide +kernel
theorem dX11_place_9 : decode cX11_place 9 = .ok (.invokevirtual 226, 3) := by decide +kernel
theorem dX11_place_12 : decode cX11_place 12 = .ok (.astore_n 2, 1) := by decide +kernel
theorem dX11_place_13 : decode cX11_place 13 = .ok (.aload_n 2, 1) := by decide +kernel
theorem dX11_place_14 : decode cX11_place 14 = .ok (.ifnonnull 10, 3) := by decide +kernel
theorem dX11_place_17 : decode cX11_place 17 = .ok (.aload_n 0, 1) := by decide +kernel
theorem dX11_place_18 : decode cX11_place 18 = .ok (.lconst 0, 1) := by decide +kernel
theorem dX11_place_19 : decode cX11_place 19 = .ok (.invokevirtual 151, 3) := by decide +kernel
theorem dX11_place_22 : decode cX11_place 22 = .ok (.l2i, 1) := by decide +kernel
theorem dX11_place_23 : decode cX11_place 23 = .ok (.ireturn, 1) := by decide +kernel
theorem dX11_place_24 : decode cX11_place 24 = .ok (.aload_n 2, 1) := by decide +kernel
theorem dX11_place_25 : decode cX11_place 25 = .ok (.invokevirtual 241, 3) := by decide +kernel
theorem dX11_place_28 : decode cX11_place 28 = .ok (.ifCond .ne 11, 3) := by decide +kernel
theorem dX11_place_31 : decode cX11_place 31 = .ok (.aload_n 0, 1) := by decide +kernel
theorem dX11_place_32 : decode cX11_place 32 = .ok (.bipush 7, 2) := by decide +kernel
theorem dX11_place_34 : decode cX11_place 34 = .ok (.invokevirtual 162, 3) := by decide +kernel
theorem dX11_place_37 : decode cX11_place 37 = .ok (.l2i, 1) := by decide +kernel
theorem dX11_place_38 : decode cX11_place 38 = .ok (.ireturn, 1) := by decide +kernel
theorem dX11_place_39 : decode cX11_place 39 = .ok (.aload_n 0, 1) := by decide +kernel
theorem dX11_place_40 : decode cX11_place 40 = .ok (.getfield 53, 3) := by decide +kernel
theorem dX11_place_43 : decode cX11_place 43 = .ok (.iload_n 1, 1) := by decide +kernel
theorem dX11_place_44 : decode cX11_place 44 = .ok (.invokevirtual 229, 3) := by decide +kernel
theorem dX11_place_47 : decode cX11_place 47 = .ok (.invokestatic 244, 3) := by decide +kernel
theorem dX11_place_50 : decode cX11_place 50 = .ok (.istore_n 3, 1) := by decide +kernel
theorem dX11_place_51 : decode cX11_place 51 = .ok (.iconst 1, 1) := by decide +kernel
theorem dX11_place_52 : decode cX11_place 52 = .ok (.istore 4, 2) := by decide +kernel
theorem dX11_place_54 : decode cX11_place 54 = .ok (.iconst 0, 1) := by decide +kernel
theorem dX11_place_55 : decode cX11_place 55 = .ok (.istore 5, 2) := by decide +kernel
theorem dX11_place_57 : decode cX11_place 57 = .ok (.iload 5, 2) := by decide +kernel
theorem dX11_place_59 : decode cX11_place 59 = .ok (.aload_n 0, 1) := by decide +kernel
theorem dX11_place_60 : decode cX11_place 60 = .ok (.getfield 19, 3) := by decide +kernel
theorem dX11_place_63 : decode cX11_place 63 = .ok (.getfield 90, 3) := by decide +kernel
theorem dX11_place_66 : decode cX11_place 66 = .ok (.if_icmp .ge 52, 3) := by decide +kernel
theorem dX11_place_69 : decode cX11_place 69 = .ok (.aload_n 0, 1) := by decide +kernel
theorem dX11_place_70 : decode cX11_place 70 = .ok (.getfield 19, 3) := by decide +kernel
theorem dX11_place_73 : decode cX11_place 73 = .ok (.iload 5, 2) := by decide +kernel
theorem dX11_place_75 : decode cX11_place 75 = .ok (.invokevirtual 103, 3) := by decide +kernel
theorem dX11_place_78 : decode cX11_place 78 = .ok (.astore 6, 2) := by decide +kernel
theorem dX11_place_80 : decode cX11_place 80 = .ok (.aload 6, 2) := by decide +kernel
theorem dX11_place_82 : decode cX11_place 82 = .ok (.ifnull 30, 3) := by decide +kernel
theorem dX11_place_85 : decode cX11_place 85 = .ok (.aload 6, 2) := by decide +kernel
theorem dX11_place_87 : decode cX11_place 87 = .ok (.invokevirtual 241, 3) := by decide +kernel
theorem dX11_place_90 : decode cX11_place 90 = .ok (.ifCond .eq 22, 3) := by decide +kernel
theorem dX11_place_93 : decode cX11_place 93 = .ok (.aload_n 0, 1) := by decide +kernel
theorem dX11_place_94 : decode cX11_place 94 = .ok (.getfield 53, 3) := by decide +kernel
theorem dX11_place_97 : decode cX11_place 97 = .ok (.iload 5, 2) := by decide +kernel
theorem dX11_place_99 : decode cX11_place 99 = .ok (.invokevirtual 229, 3) := by decide +kernel
theorem dX11_place_102 : decode cX11_place 102 = .ok (.invokestatic 244, 3) := by decide +kernel
theorem dX11_place_105 : decode cX11_place 105 = .ok (.iload_n 3, 1) := by decide +kernel
theorem dX11_place_106 : decode cX11_place 106 = .ok (.if_icmp .le 6, 3) := by decide +kernel
theorem dX11_place_109 : decode cX11_place 109 = .ok (.iinc 4 1, 3) := by decide +kernel
theorem dX11_place_112 : decode cX11_place 112 = .ok (.iinc 5 1, 3) := by decide +kernel
theorem dX11_place_115 : decode cX11_place 115 = .ok (.goto (-58), 3) := by decide +kernel
theorem dX11_place_118 : decode cX11_place 118 = .ok (.aload_n 0, 1) := by decide +kernel
theorem dX11_place_119 : decode cX11_place 119 = .ok (.iload 4, 2) := by decide +kernel
theorem dX11_place_121 : decode cX11_place 121 = .ok (.i2l, 1) := by decide +kernel
theorem dX11_place_122 : decode cX11_place 122 = .ok (.invokevirtual 151, 3) := by decide +kernel
theorem dX11_place_125 : decode cX11_place 125 = .ok (.l2i, 1) := by decide +kernel
theorem dX11_place_126 : decode cX11_place 126 = .ok (.ireturn, 1) := by decide +kernel
theorem dX11_publish_0 : decode cX11_publish 0 = .ok (.aload_n 0, 1) := by decide +kernel
theorem dX11_publish_1 : decode cX11_publish 1 = .ok (.getfield 247, 3) := by decide +kernel
theorem dX11_publish_4 : decode cX11_publish 4 = .ok (.bipush 20, 2) := by decide +kernel
theorem dX11_publish_6 : decode cX11_publish 6 = .ok (.if_icmp .lt 5, 3) := by decide +kernel
theorem dX11_publish_9 : decode cX11_publish 9 = .ok (.iconst (-1), 1) := by decide +kernel
theorem dX11_publish_10 : decode cX11_publish 10 = .ok (.ireturn, 1) := by decide +kernel
theorem dX11_publish_11 : decode cX11_publish 11 = .ok (.aload_n 0, 1) := by decide +kernel
theorem dX11_publish_12 : decode cX11_publish 12 = .ok (.getfield 44, 3) := by decide +kernel
theorem dX11_publish_15 : decode cX11_publish 15 = .ok (.invokevirtual 190, 3) := by decide +kernel
theorem dX11_publish_18 : decode cX11_publish 18 = .ok (.iconst 0, 1) := by decide +kernel
theorem dX11_publish_19 : decode cX11_publish 19 = .ok (.istore_n 1, 1) := by decide +kernel
theorem dX11_publish_20 : decode cX11_publish 20 = .ok (.iload_n 1, 1) := by decide +kernel
theorem dX11_publish_21 : decode cX11_publish 21 = .ok (.aload_n 0, 1) := by decide +kernel
theorem dX11_publish_22 : decode cX11_publish 22 = .ok (.getfield 19, 3) := by decide +kernel
theorem dX11_publish_25 : decode cX11_publish 25 = .ok (.getfield 90, 3) := by decide +kernel
theorem dX11_publish_28 : decode cX11_publish 28 = .ok (.if_icmp .ge 31, 3) := by decide +kernel
theorem dX11_publish_31 : decode cX11_publish 31 = .ok (.aload_n 0, 1) := by decide +kernel
theorem dX11_publish_32 : decode cX11_publish 32 = .ok (.getfield 59, 3) := by decide +kernel
theorem dX11_publish_35 : decode cX11_publish 35 = .ok (.aload_n 0, 1) := by decide +kernel
theorem dX11_publish_36 : decode cX11_publish 36 = .ok (.getfield 247, 3) := by decide +kernel
theorem dX11_publish_39 : decode cX11_publish 39 = .ok (.aaload, 1) := by decide +kernel
theorem dX11_publish_40 : decode cX11_publish 40 = .ok (.iload_n 1, 1) := by decide +kernel
theorem dX11_publish_41 : decode cX11_publish 41 = .ok (.aload_n 0, 1) := by decide +kernel
theorem dX11_publish_42 : decode cX11_publish 42 = .ok (.getfield 53, 3) := by decide +kernel
theorem dX11_publish_45 : decode cX11_publish 45 = .ok (.iload_n 1, 1) := by decide +kernel
theorem dX11_publish_46 : decode cX11_publish 46 = .ok (.invokevirtual 229, 3) := by decide +kernel
theorem dX11_publish_49 : decode cX11_publish 49 = .ok (.invokestatic 244, 3) := by decide +kernel
theorem dX11_publish_52 : decode cX11_publish 52 = .ok (.iastore, 1) := by decide +kernel
theorem dX11_publish_53 : decode cX11_publish 53 = .ok (.iinc 1 1, 3) := by decide +kernel
theorem dX11_publish_56 : decode cX11_publish 56 = .ok (.goto (-36), 3) := by decide +kernel
theorem dX11_publish_59 : decode cX11_publish 59 = .ok (.aload_n 0, 1) := by decide +kernel
theorem dX11_publish_60 : decode cX11_publish 60 = .ok (.getfield 62, 3) := by decide +kernel
theorem dX11_publish_63 : decode cX11_publish 63 = .ok (.aload_n 0, 1) := by decide +kernel
theorem dX11_publish_64 : decode cX11_publish 64 = .ok (.getfield 247, 3) := by decide +kernel
theorem dX11_publish_67 : decode cX11_publish 67 = .ok (.aload_n 0, 1) := by decide +kernel
theorem dX11_publish_68 : decode cX11_publish 68 = .ok (.getfield 19, 3) := by decide +kernel
theorem dX11_publish_71 : decode cX11_publish 71 = .ok (.getfield 90, 3) := by decide +kernel
theorem dX11_publish_74 : decode cX11_publish 74 = .ok (.iastore, 1) := by decide +kernel
theorem dX11_publish_75 : decode cX11_publish 75 = .ok (.aload_n 0, 1) := by decide +kernel
theorem dX11_publish_76 : decode cX11_publish 76 = .ok (.dup, 1) := by decide +kernel
theorem dX11_publish_77 : decode cX11_publish 77 = .ok (.getfield 247, 3) := by decide +kernel
theorem dX11_publish_80 : decode cX11_publish 80 = .ok (.iconst 1, 1) := by decide +kernel
theorem dX11_publish_81 : decode cX11_publish 81 = .ok (.iadd, 1) := by decide +kernel
theorem dX11_publish_82 : decode cX11_publish 82 = .ok (.putfield 247, 3) := by decide +kernel
theorem dX11_publish_85 : decode cX11_publish 85 = .ok (.aload_n 0, 1) := by decide +kernel
theorem dX11_publish_86 : decode cX11_publish 86 = .ok (.getfield 247, 3) := by decide +kernel
theorem dX11_publish_89 : decode cX11_publish 89 = .ok (.ireturn, 1) := by decide +kernel
theorem dX11_known_0 : decode cX11_known 0 = .ok (.aload_n 0, 1) := by decide +kernel
theorem dX11_known_1 : decode cX11_known 1 = .ok (.iload_n 2, 1) := by decide +kernel
theorem dX11_known_2 : decode cX11_known 2 = .ok (.invokevirtual 226, 3) := by decide +kernel
theorem dX11_known_5 : decode cX11_known 5 = .ok (.astore_n 3, 1) := by decide +kernel
theorem dX11_known_6 : decode cX11_known 6 = .ok (.aload_n 3, 1) := by decide +kernel
theorem dX11_known_7 : decode cX11_known 7 = .ok (.ifnonnull 10, 3) := by decide +kernel
theorem dX11_known_10 : decode cX11_known 10 = .ok (.aload_n 0, 1) := by decide +kernel
theorem dX11_known_11 : decode cX11_known 11 = .ok (.lconst 0, 1) := by decide +kernel
theorem dX11_known_12 : decode cX11_known 12 = .ok (.invokevirtual 151, 3) := by decide +kernel
theorem dX11_known_15 : decode cX11_known 15 = .ok (.l2i, 1) := by decide +kernel
theorem dX11_known_16 : decode cX11_known 16 = .ok (.ireturn, 1) := by decide +kernel
theorem dX11_known_17 : decode cX11_known 17 = .ok (.iload_n 1, 1) := by decide +kernel
theorem dX11_known_18 : decode cX11_known 18 = .ok (.iconst 1, 1) := by decide +kernel
theorem dX11_known_19 : decode cX11_known 19 = .ok (.if_icmp .lt 23, 3) := by decide +kernel
theorem dX11_known_22 : decode cX11_known 22 = .ok (.iload_n 1, 1) := by decide +kernel
theorem dX11_known_23 : decode cX11_known 23 = .ok (.aload_n 0, 1) := by decide +kernel
theorem dX11_known_24 : decode cX11_known 24 = .ok (.getfield 247, 3) := by decide +kernel
theorem dX11_known_27 : decode cX11_known 27 = .ok (.if_icmp .gt 15, 3) := by decide +kernel
theorem dX11_known_30 : decode cX11_known 30 = .ok (.iload_n 2, 1) := by decide +kernel
theorem dX11_known_31 : decode cX11_known 31 = .ok (.aload_n 0, 1) := by decide +kernel
theorem dX11_known_32 : decode cX11_known 32 = .ok (.getfield 62, 3) := by decide +kernel
theorem dX11_known_35 : decode cX11_known 35 = .ok (.iload_n 1, 1) := by decide +kernel
theorem dX11_known_36 : decode cX11_known 36 = .ok (.iconst 1, 1) := by decide +kernel
theorem dX11_known_37 : decode cX11_known 37 = .ok (.isub, 1) := by decide +kernel
theorem dX11_known_38 : decode cX11_known 38 = .ok (.iaload, 1) := by decide +kernel
theorem dX11_known_39 : decode cX11_known 39 = .ok (.if_icmp .lt 10, 3) := by decide +kernel
theorem dX11_known_42 : decode cX11_known 42 = .ok (.aload_n 0, 1) := by decide +kernel
theorem dX11_known_43 : decode cX11_known 43 = .ok (.iconst 2, 1) := by decide +kernel
theorem dX11_known_44 : decode cX11_known 44 = .ok (.invokevirtual 162, 3) := by decide +kernel
theorem dX11_known_47 : decode cX11_known 47 = .ok (.l2i, 1) := by decide +kernel
theorem dX11_known_48 : decode cX11_known 48 = .ok (.ireturn, 1) := by decide +kernel
theorem dX11_known_49 : decode cX11_known 49 = .ok (.aload_n 0, 1) := by decide +kernel
theorem dX11_known_50 : decode cX11_known 50 = .ok (.aload_n 0, 1) := by decide +kernel
theorem dX11_known_51 : decode cX11_known 51 = .ok (.getfield 59, 3) := by decide +kernel
theorem dX11_known_54 : decode cX11_known 54 = .ok (.iload_n 1, 1) := by decide +kernel
theorem dX11_known_55 : decode cX11_known 55 = .ok (.iconst 1, 1) := by decide +kernel
theorem dX11_known_56 : decode cX11_known 56 = .ok (.isub, 1) := by decide +kernel
theorem dX11_known_57 : decode cX11_known 57 = .ok (.aaload, 1) := by decide +kernel
theorem dX11_known_58 : decode cX11_known 58 = .ok (.iload_n 2, 1) := by decide +kernel
theorem dX11_known_59 : decode cX11_known 59 = .ok (.iaload, 1) := by decide +kernel
theorem dX11_known_60 : decode cX11_known 60 = .ok (.i2l, 1) := by decide +kernel
theorem dX11_known_61 : decode cX11_known 61 = .ok (.invokevirtual 151, 3) := by decide +kernel
theorem dX11_known_64 : decode cX11_known 64 = .ok (.l2i, 1) := by decide +kernel
theorem dX11_known_65 : decode cX11_known 65 = .ok (.ireturn, 1) := by decide +kernel
theorem dX11_finding_0 : decode cX11_finding 0 = .ok (.aload_n 0, 1) := by decide +kernel
theorem dX11_finding_1 : decode cX11_finding 1 = .ok (.getfield 250, 3) := by decide +kernel
theorem dX11_finding_4 : decode cX11_finding 4 = .ok (.ireturn, 1) := by decide +kernel
theorem dX11_count_0 : decode cX11_count 0 = .ok (.iload_n 1, 1) := by decide +kernel
theorem dX11_count_1 : decode cX11_count 1 = .ok (.tableswitch 96 0 7 #[47, 55, 63, 71, 76, 81, 86, 91], 47) := by decide +kernel
theorem dX11_count_48 : decode cX11_count 48 = .ok (.aload_n 0, 1) := by decide +kernel
theorem dX11_count_49 : decode cX11_count 49 = .ok (.getfield 19, 3) := by decide +kernel
theorem dX11_count_52 : decode cX11_count 52 = .ok (.getfield 90, 3) := by decide +kernel
theorem dX11_count_55 : decode cX11_count 55 = .ok (.ireturn, 1) := by decide +kernel
theorem dX11_count_56 : decode cX11_count 56 = .ok (.aload_n 0, 1) := by decide +kernel
theorem dX11_count_57 : decode cX11_count 57 = .ok (.getfield 10, 3) := by decide +kernel
theorem dX11_count_60 : decode cX11_count 60 = .ok (.getfield 74, 3) := by decide +kernel
theorem dX11_count_63 : decode cX11_count 63 = .ok (.ireturn, 1) := by decide +kernel
theorem dX11_count_64 : decode cX11_count 64 = .ok (.aload_n 0, 1) := by decide +kernel
theorem dX11_count_65 : decode cX11_count 65 = .ok (.getfield 28, 3) := by decide +kernel
theorem dX11_count_68 : decode cX11_count 68 = .ok (.getfield 127, 3) := by decide +kernel
theorem dX11_count_71 : decode cX11_count 71 = .ok (.ireturn, 1) := by decide +kernel
theorem dX11_count_72 : decode cX11_count 72 = .ok (.aload_n 0, 1) := by decide +kernel
theorem dX11_count_73 : decode cX11_count 73 = .ok (.getfield 253, 3) := by decide +kernel
theorem dX11_count_76 : decode cX11_count 76 = .ok (.ireturn, 1) := by decide +kernel
theorem dX11_count_77 : decode cX11_count 77 = .ok (.aload_n 0, 1) := by decide +kernel
theorem dX11_count_78 : decode cX11_count 78 = .ok (.getfield 256, 3) := by decide +kernel
theorem dX11_count_81 : decode cX11_count 81 = .ok (.ireturn, 1) := by decide +kernel
theorem dX11_count_82 : decode cX11_count 82 = .ok (.aload_n 0, 1) := by decide +kernel
theorem dX11_count_83 : decode cX11_count 83 = .ok (.getfield 259, 3) := by decide +kernel
theorem dX11_count_86 : decode cX11_count 86 = .ok (.ireturn, 1) := by decide +kernel
theorem dX11_count_87 : decode cX11_count 87 = .ok (.aload_n 0, 1) := by decide +kernel
theorem dX11_count_88 : decode cX11_count 88 = .ok (.getfield 262, 3) := by decide +kernel
theorem dX11_count_91 : decode cX11_count 91 = .ok (.ireturn, 1) := by decide +kernel
theorem dX11_count_92 : decode cX11_count 92 = .ok (.aload_n 0, 1) := by decide +kernel
theorem dX11_count_93 : decode cX11_count 93 = .ok (.getfield 247, 3) := by decide +kernel
theorem dX11_count_96 : decode cX11_count 96 = .ok (.ireturn, 1) := by decide +kernel
theorem dX11_count_97 : decode cX11_count 97 = .ok (.iconst (-1), 1) := by decide +kernel
theorem dX11_count_98 : decode cX11_count 98 = .ok (.ireturn, 1) := by decide +kernel
theorem dX11_isBelow_0 : decode cX11_isBelow 0 = .ok (.iload_n 0, 1) := by decide +kernel
theorem dX11_isBelow_1 : decode cX11_isBelow 1 = .ok (.ifCond .lt 12, 3) := by decide +kernel
theorem dX11_isBelow_4 : decode cX11_isBelow 4 = .ok (.iload_n 0, 1) := by decide +kernel
theorem dX11_isBelow_5 : decode cX11_isBelow 5 = .ok (.iload_n 1, 1) := by decide +kernel
theorem dX11_isBelow_6 : decode cX11_isBelow 6 = .ok (.if_icmp .ge 7, 3) := by decide +kernel
theorem dX11_isBelow_9 : decode cX11_isBelow 9 = .ok (.iconst 1, 1) := by decide +kernel
theorem dX11_isBelow_10 : decode cX11_isBelow 10 = .ok (.goto 4, 3) := by decide +kernel
theorem dX11_isBelow_13 : decode cX11_isBelow 13 = .ok (.iconst 0, 1) := by decide +kernel
theorem dX11_isBelow_14 : decode cX11_isBelow 14 = .ok (.ireturn, 1) := by decide +kernel
theorem dX11_askedStation_0 : decode cX11_askedStation 0 = .ok (.aload_n 0, 1) := by decide +kernel
theorem dX11_askedStation_1 : decode cX11_askedStation 1 = .ok (.dup, 1) := by decide +kernel
theorem dX11_askedStation_2 : decode cX11_askedStation 2 = .ok (.getfield 259, 3) := by decide +kernel
theorem dX11_askedStation_5 : decode cX11_askedStation 5 = .ok (.iconst 1, 1) := by decide +kernel
theorem dX11_askedStation_6 : decode cX11_askedStation 6 = .ok (.iadd, 1) := by decide +kernel
theorem dX11_askedStation_7 : decode cX11_askedStation 7 = .ok (.putfield 259, 3) := by decide +kernel
theorem dX11_askedStation_10 : decode cX11_askedStation 10 = .ok (.aload_n 0, 1) := by decide +kernel
theorem dX11_askedStation_11 : decode cX11_askedStation 11 = .ok (.iconst 0, 1) := by decide +kernel
theorem dX11_askedStation_12 : decode cX11_askedStation 12 = .ok (.putfield 250, 3) := by decide +kernel
theorem dX11_askedStation_15 : decode cX11_askedStation 15 = .ok (.aload_n 0, 1) := by decide +kernel
theorem dX11_askedStation_16 : decode cX11_askedStation 16 = .ok (.getfield 19, 3) := by decide +kernel
theorem dX11_askedStation_19 : decode cX11_askedStation 19 = .ok (.iload_n 1, 1) := by decide +kernel
theorem dX11_askedStation_20 : decode cX11_askedStation 20 = .ok (.invokevirtual 103, 3) := by decide +kernel
theorem dX11_askedStation_23 : decode cX11_askedStation 23 = .ok (.astore_n 2, 1) := by decide +kernel
theorem dX11_askedStation_24 : decode cX11_askedStation 24 = .ok (.aload_n 2, 1) := by decide +kernel
theorem dX11_askedStation_25 : decode cX11_askedStation 25 = .ok (.ifnonnull 11, 3) := by decide +kernel
theorem dX11_askedStation_28 : decode cX11_askedStation 28 = .ok (.aload_n 0, 1) := by decide +kernel
theorem dX11_askedStation_29 : decode cX11_askedStation 29 = .ok (.iconst 4, 1) := by decide +kernel
theorem dX11_askedStation_30 : decode cX11_askedStation 30 = .ok (.putfield 250, 3) := by decide +kernel
theorem dX11_askedStation_33 : decode cX11_askedStation 33 = .ok (.goto 13, 3) := by decide +kernel
theorem dX11_askedStation_36 : decode cX11_askedStation 36 = .ok (.aload_n 0, 1) := by decide +kernel
theorem dX11_askedStation_37 : decode cX11_askedStation 37 = .ok (.dup, 1) := by decide +kernel
theorem dX11_askedStation_38 : decode cX11_askedStation 38 = .ok (.getfield 253, 3) := by decide +kernel
theorem dX11_askedStation_41 : decode cX11_askedStation 41 = .ok (.iconst 1, 1) := by decide +kernel
theorem dX11_askedStation_42 : decode cX11_askedStation 42 = .ok (.iadd, 1) := by decide +kernel
theorem dX11_askedStation_43 : decode cX11_askedStation 43 = .ok (.putfield 253, 3) := by decide +kernel
theorem dX11_askedStation_46 : decode cX11_askedStation 46 = .ok (.aload_n 2, 1) := by decide +kernel
theorem dX11_askedStation_47 : decode cX11_askedStation 47 = .ok (.areturn, 1) := by decide +kernel
theorem dX11_askedStationWithLog_0 : decode cX11_askedStationWithLog 0 = .ok (.aload_n 0, 1) := by decide +kernel
theorem dX11_askedStationWithLog_1 : decode cX11_askedStationWithLog 1 = .ok (.iload_n 1, 1) := by decide +kernel
theorem dX11_askedStationWithLog_2 : decode cX11_askedStationWithLog 2 = .ok (.invokevirtual 226, 3) := by decide +kernel
theorem dX11_askedStationWithLog_5 : decode cX11_askedStationWithLog 5 = .ok (.astore_n 2, 1) := by decide +kernel
theorem dX11_askedStationWithLog_6 : decode cX11_askedStationWithLog 6 = .ok (.aload_n 2, 1) := by decide +kernel
theorem dX11_askedStationWithLog_7 : decode cX11_askedStationWithLog 7 = .ok (.ifnonnull 5, 3) := by decide +kernel
theorem dX11_askedStationWithLog_10 : decode cX11_askedStationWithLog 10 = .ok (.aconst_null, 1) := by decide +kernel
theorem dX11_askedStationWithLog_11 : decode cX11_askedStationWithLog 11 = .ok (.areturn, 1) := by decide +kernel
theorem dX11_askedStationWithLog_12 : decode cX11_askedStationWithLog 12 = .ok (.aload_n 2, 1) := by decide +kernel
theorem dX11_askedStationWithLog_13 : decode cX11_askedStationWithLog 13 = .ok (.invokevirtual 265, 3) := by decide +kernel
theorem dX11_askedStationWithLog_16 : decode cX11_askedStationWithLog 16 = .ok (.ifCond .ne 11, 3) := by decide +kernel
theorem dX11_askedStationWithLog_19 : decode cX11_askedStationWithLog 19 = .ok (.aload_n 0, 1) := by decide +kernel
theorem dX11_askedStationWithLog_20 : decode cX11_askedStationWithLog 20 = .ok (.bipush 7, 2) := by decide +kernel
theorem dX11_askedStationWithLog_22 : decode cX11_askedStationWithLog 22 = .ok (.putfield 250, 3) := by decide +kernel
theorem dX11_askedStationWithLog_25 : decode cX11_askedStationWithLog 25 = .ok (.aconst_null, 1) := by decide +kernel
theorem dX11_askedStationWithLog_26 : decode cX11_askedStationWithLog 26 = .ok (.areturn, 1) := by decide +kernel
theorem dX11_askedStationWithLog_27 : decode cX11_askedStationWithLog 27 = .ok (.aload_n 2, 1) := by decide +kernel
theorem dX11_askedStationWithLog_28 : decode cX11_askedStationWithLog 28 = .ok (.areturn, 1) := by decide +kernel
theorem dX11_askedLog_0 : decode cX11_askedLog 0 = .ok (.aload_n 0, 1) := by decide +kernel
theorem dX11_askedLog_1 : decode cX11_askedLog 1 = .ok (.iload_n 1, 1) := by decide +kernel
theorem dX11_askedLog_2 : decode cX11_askedLog 2 = .ok (.invokevirtual 226, 3) := by decide +kernel
theorem dX11_askedLog_5 : decode cX11_askedLog 5 = .ok (.astore_n 3, 1) := by decide +kernel
theorem dX11_askedLog_6 : decode cX11_askedLog 6 = .ok (.aload_n 3, 1) := by decide +kernel
theorem dX11_askedLog_7 : decode cX11_askedLog 7 = .ok (.ifnonnull 5, 3) := by decide +kernel
theorem dX11_askedLog_10 : decode cX11_askedLog 10 = .ok (.aconst_null, 1) := by decide +kernel
theorem dX11_askedLog_11 : decode cX11_askedLog 11 = .ok (.areturn, 1) := by decide +kernel
theorem dX11_askedLog_12 : decode cX11_askedLog 12 = .ok (.aload_n 3, 1) := by decide +kernel
theorem dX11_askedLog_13 : decode cX11_askedLog 13 = .ok (.iload_n 2, 1) := by decide +kernel
theorem dX11_askedLog_14 : decode cX11_askedLog 14 = .ok (.invokevirtual 268, 3) := by decide +kernel
theorem dX11_askedLog_17 : decode cX11_askedLog 17 = .ok (.astore 4, 2) := by decide +kernel
theorem dX11_askedLog_19 : decode cX11_askedLog 19 = .ok (.aload 4, 2) := by decide +kernel
theorem dX11_askedLog_21 : decode cX11_askedLog 21 = .ok (.ifnonnull 11, 3) := by decide +kernel
theorem dX11_askedLog_24 : decode cX11_askedLog 24 = .ok (.aload_n 0, 1) := by decide +kernel
theorem dX11_askedLog_25 : decode cX11_askedLog 25 = .ok (.bipush 6, 2) := by decide +kernel
theorem dX11_askedLog_27 : decode cX11_askedLog 27 = .ok (.putfield 250, 3) := by decide +kernel
theorem dX11_askedLog_30 : decode cX11_askedLog 30 = .ok (.aconst_null, 1) := by decide +kernel
theorem dX11_askedLog_31 : decode cX11_askedLog 31 = .ok (.areturn, 1) := by decide +kernel
theorem dX11_askedLog_32 : decode cX11_askedLog 32 = .ok (.aload 4, 2) := by decide +kernel
theorem dX11_askedLog_34 : decode cX11_askedLog 34 = .ok (.getfield 272, 3) := by decide +kernel
theorem dX11_askedLog_37 : decode cX11_askedLog 37 = .ok (.ifCond .eq 10, 3) := by decide +kernel
theorem dX11_askedLog_40 : decode cX11_askedLog 40 = .ok (.aload_n 0, 1) := by decide +kernel
theorem dX11_askedLog_41 : decode cX11_askedLog 41 = .ok (.iconst 1, 1) := by decide +kernel
theorem dX11_askedLog_42 : decode cX11_askedLog 42 = .ok (.putfield 250, 3) := by decide +kernel
theorem dX11_askedLog_45 : decode cX11_askedLog 45 = .ok (.aconst_null, 1) := by decide +kernel
theorem dX11_askedLog_46 : decode cX11_askedLog 46 = .ok (.areturn, 1) := by decide +kernel
theorem dX11_askedLog_47 : decode cX11_askedLog 47 = .ok (.aload 4, 2) := by decide +kernel
theorem dX11_askedLog_49 : decode cX11_askedLog 49 = .ok (.areturn, 1) := by decide +kernel
theorem dX11_askedLine_0 : decode cX11_askedLine 0 = .ok (.aload_n 0, 1) := by decide +kernel
theorem dX11_askedLine_1 : decode cX11_askedLine 1 = .ok (.iload_n 1, 1) := by decide +kernel
theorem dX11_askedLine_2 : decode cX11_askedLine 2 = .ok (.iload_n 2, 1) := by decide +kernel
theorem dX11_askedLine_3 : decode cX11_askedLine 3 = .ok (.invokevirtual 147, 3) := by decide +kernel
theorem dX11_askedLine_6 : decode cX11_askedLine 6 = .ok (.astore 4, 2) := by decide +kernel
theorem dX11_askedLine_8 : decode cX11_askedLine 8 = .ok (.aload 4, 2) := by decide +kernel
theorem dX11_askedLine_10 : decode cX11_askedLine 10 = .ok (.ifnonnull 5, 3) := by decide +kernel
theorem dX11_askedLine_13 : decode cX11_askedLine 13 = .ok (.aconst_null, 1) := by decide +kernel
theorem dX11_askedLine_14 : decode cX11_askedLine 14 = .ok (.areturn, 1) := by decide +kernel
theorem dX11_askedLine_15 : decode cX11_askedLine 15 = .ok (.aload 4, 2) := by decide +kernel
theorem dX11_askedLine_17 : decode cX11_askedLine 17 = .ok (.iload_n 3, 1) := by decide +kernel
theorem dX11_askedLine_18 : decode cX11_askedLine 18 = .ok (.invokevirtual 275, 3) := by decide +kernel
theorem dX11_askedLine_21 : decode cX11_askedLine 21 = .ok (.astore 5, 2) := by decide +kernel
theorem dX11_askedLine_23 : decode cX11_askedLine 23 = .ok (.aload 5, 2) := by decide +kernel
theorem dX11_askedLine_25 : decode cX11_askedLine 25 = .ok (.ifnonnull 8, 3) := by decide +kernel
theorem dX11_askedLine_28 : decode cX11_askedLine 28 = .ok (.aload_n 0, 1) := by decide +kernel
theorem dX11_askedLine_29 : decode cX11_askedLine 29 = .ok (.iconst 2, 1) := by decide +kernel
theorem dX11_askedLine_30 : decode cX11_askedLine 30 = .ok (.putfield 250, 3) := by decide +kernel
theorem dX11_askedLine_33 : decode cX11_askedLine 33 = .ok (.aload 5, 2) := by decide +kernel
theorem dX11_askedLine_35 : decode cX11_askedLine 35 = .ok (.areturn, 1) := by decide +kernel
theorem dX11_askedContact_0 : decode cX11_askedContact 0 = .ok (.aload_n 0, 1) := by decide +kernel
theorem dX11_askedContact_1 : decode cX11_askedContact 1 = .ok (.iload_n 1, 1) := by decide +kernel
theorem dX11_askedContact_2 : decode cX11_askedContact 2 = .ok (.iload_n 2, 1) := by decide +kernel
theorem dX11_askedContact_3 : decode cX11_askedContact 3 = .ok (.iload_n 3, 1) := by decide +kernel
theorem dX11_askedContact_4 : decode cX11_askedContact 4 = .ok (.invokevirtual 155, 3) := by decide +kernel
theorem dX11_askedContact_7 : decode cX11_askedContact 7 = .ok (.astore 4, 2) := by decide +kernel
theorem dX11_askedContact_9 : decode cX11_askedContact 9 = .ok (.aload 4, 2) := by decide +kernel
theorem dX11_askedContact_11 : decode cX11_askedContact 11 = .ok (.ifnull 11, 3) := by decide +kernel
theorem dX11_askedContact_14 : decode cX11_askedContact 14 = .ok (.aload 4, 2) := by decide +kernel
theorem dX11_askedContact_16 : decode cX11_askedContact 16 = .ok (.getfield 159, 3) := by decide +kernel
theorem dX11_askedContact_19 : decode cX11_askedContact 19 = .ok (.ifCond .ne 6, 3) := by decide +kernel
theorem dX11_askedContact_22 : decode cX11_askedContact 22 = .ok (.aload 4, 2) := by decide +kernel
theorem dX11_askedContact_24 : decode cX11_askedContact 24 = .ok (.areturn, 1) := by decide +kernel
theorem dX11_askedContact_25 : decode cX11_askedContact 25 = .ok (.aload_n 0, 1) := by decide +kernel
theorem dX11_askedContact_26 : decode cX11_askedContact 26 = .ok (.iconst 3, 1) := by decide +kernel
theorem dX11_askedContact_27 : decode cX11_askedContact 27 = .ok (.putfield 250, 3) := by decide +kernel
theorem dX11_askedContact_30 : decode cX11_askedContact 30 = .ok (.aconst_null, 1) := by decide +kernel
theorem dX11_askedContact_31 : decode cX11_askedContact 31 = .ok (.areturn, 1) := by decide +kernel
theorem dX11_answered_0 : decode cX11_answered 0 = .ok (.aload_n 0, 1) := by decide +kernel
theorem dX11_answered_1 : decode cX11_answered 1 = .ok (.getfield 256, 3) := by decide +kernel
theorem dX11_answered_4 : decode cX11_answered 4 = .ok (.aload_n 0, 1) := by decide +kernel
theorem dX11_answered_5 : decode cX11_answered 5 = .ok (.getfield 253, 3) := by decide +kernel
theorem dX11_answered_8 : decode cX11_answered 8 = .ok (.if_icmp .ge 13, 3) := by decide +kernel
theorem dX11_answered_11 : decode cX11_answered 11 = .ok (.aload_n 0, 1) := by decide +kernel
theorem dX11_answered_12 : decode cX11_answered 12 = .ok (.dup, 1) := by decide +kernel
theorem dX11_answered_13 : decode cX11_answered 13 = .ok (.getfield 256, 3) := by decide +kernel
theorem dX11_answered_16 : decode cX11_answered 16 = .ok (.iconst 1, 1) := by decide +kernel
theorem dX11_answered_17 : decode cX11_answered 17 = .ok (.iadd, 1) := by decide +kernel
theorem dX11_answered_18 : decode cX11_answered 18 = .ok (.putfield 256, 3) := by decide +kernel
theorem dX11_answered_21 : decode cX11_answered 21 = .ok (.aload_n 0, 1) := by decide +kernel
theorem dX11_answered_22 : decode cX11_answered 22 = .ok (.getfield 250, 3) := by decide +kernel
theorem dX11_answered_25 : decode cX11_answered 25 = .ok (.ifCond .ne 5, 3) := by decide +kernel
theorem dX11_answered_28 : decode cX11_answered 28 = .ok (.lload_n 1, 1) := by decide +kernel
theorem dX11_answered_29 : decode cX11_answered 29 = .ok (.lreturn, 1) := by decide +kernel
theorem dX11_answered_30 : decode cX11_answered 30 = .ok (.aload_n 0, 1) := by decide +kernel
theorem dX11_answered_31 : decode cX11_answered 31 = .ok (.dup, 1) := by decide +kernel
theorem dX11_answered_32 : decode cX11_answered 32 = .ok (.getfield 262, 3) := by decide +kernel
theorem dX11_answered_35 : decode cX11_answered 35 = .ok (.iconst 1, 1) := by decide +kernel
theorem dX11_answered_36 : decode cX11_answered 36 = .ok (.iadd, 1) := by decide +kernel
theorem dX11_answered_37 : decode cX11_answered 37 = .ok (.putfield 262, 3) := by decide +kernel
theorem dX11_answered_40 : decode cX11_answered 40 = .ok (.lconst 0, 1) := by decide +kernel
theorem dX11_answered_41 : decode cX11_answered 41 = .ok (.lreturn, 1) := by decide +kernel
theorem dX11_refused_0 : decode cX11_refused 0 = .ok (.aload_n 0, 1) := by decide +kernel
theorem dX11_refused_1 : decode cX11_refused 1 = .ok (.iload_n 1, 1) := by decide +kernel
theorem dX11_refused_2 : decode cX11_refused 2 = .ok (.putfield 250, 3) := by decide +kernel
theorem dX11_refused_5 : decode cX11_refused 5 = .ok (.aload_n 0, 1) := by decide +kernel
theorem dX11_refused_6 : decode cX11_refused 6 = .ok (.lconst 0, 1) := by decide +kernel
theorem dX11_refused_7 : decode cX11_refused 7 = .ok (.invokevirtual 151, 3) := by decide +kernel
theorem dX11_refused_10 : decode cX11_refused 10 = .ok (.lreturn, 1) := by decide +kernel
theorem dX11_answeredSum_0 : decode cX11_answeredSum 0 = .ok (.lload_n 1, 1) := by decide +kernel
theorem dX11_answeredSum_1 : decode cX11_answeredSum 1 = .ok (.ldc2_w 278, 3) := by decide +kernel
theorem dX11_answeredSum_4 : decode cX11_answeredSum 4 = .ok (.lcmp, 1) := by decide +kernel
theorem dX11_answeredSum_5 : decode cX11_answeredSum 5 = .ok (.ifCond .ne 11, 3) := by decide +kernel
theorem dX11_answeredSum_8 : decode cX11_answeredSum 8 = .ok (.aload_n 0, 1) := by decide +kernel
theorem dX11_answeredSum_9 : decode cX11_answeredSum 9 = .ok (.iconst 5, 1) := by decide +kernel
theorem dX11_answeredSum_10 : decode cX11_answeredSum 10 = .ok (.invokevirtual 162, 3) := by decide +kernel
theorem dX11_answeredSum_13 : decode cX11_answeredSum 13 = .ok (.goto 8, 3) := by decide +kernel
theorem dX11_answeredSum_16 : decode cX11_answeredSum 16 = .ok (.aload_n 0, 1) := by decide +kernel
theorem dX11_answeredSum_17 : decode cX11_answeredSum 17 = .ok (.lload_n 1, 1) := by decide +kernel
theorem dX11_answeredSum_18 : decode cX11_answeredSum 18 = .ok (.invokevirtual 151, 3) := by decide +kernel
theorem dX11_answeredSum_21 : decode cX11_answeredSum 21 = .ok (.lreturn, 1) := by decide +kernel
theorem dX11_orZero_0 : decode cX11_orZero 0 = .ok (.lload_n 0, 1) := by decide +kernel
theorem dX11_orZero_1 : decode cX11_orZero 1 = .ok (.ldc2_w 278, 3) := by decide +kernel
theorem dX11_orZero_4 : decode cX11_orZero 4 = .ok (.lcmp, 1) := by decide +kernel
theorem dX11_orZero_5 : decode cX11_orZero 5 = .ok (.ifCond .ne 7, 3) := by decide +kernel
theorem dX11_orZero_8 : decode cX11_orZero 8 = .ok (.iconst 0, 1) := by decide +kernel
theorem dX11_orZero_9 : decode cX11_orZero 9 = .ok (.goto 5, 3) := by decide +kernel
theorem dX11_orZero_12 : decode cX11_orZero 12 = .ok (.lload_n 0, 1) := by decide +kernel
theorem dX11_orZero_13 : decode cX11_orZero 13 = .ok (.l2i, 1) := by decide +kernel
theorem dX11_orZero_14 : decode cX11_orZero 14 = .ok (.ireturn, 1) := by decide +kernel
theorem dX12_init_0 : decode cX12_init 0 = .ok (.aload_n 0, 1) := by decide +kernel
theorem dX12_init_1 : decode cX12_init 1 = .ok (.invokespecial 1, 3) := by decide +kernel
theorem dX12_init_4 : decode cX12_init 4 = .ok (.aload_n 0, 1) := by decide +kernel
theorem dX12_init_5 : decode cX12_init 5 = .ok (.bipush 12, 2) := by decide +kernel
theorem dX12_init_7 : decode cX12_init 7 = .ok (.newarray .int, 2) := by decide +kernel
theorem dX12_init_9 : decode cX12_init 9 = .ok (.putfield 7, 3) := by decide +kernel
theorem dX12_init_12 : decode cX12_init 12 = .ok (.aload_n 0, 1) := by decide +kernel
theorem dX12_init_13 : decode cX12_init 13 = .ok (.bipush 12, 2) := by decide +kernel
theorem dX12_init_15 : decode cX12_init 15 = .ok (.newarray .int, 2) := by decide +kernel
theorem dX12_init_17 : decode cX12_init 17 = .ok (.putfield 13, 3) := by decide +kernel
theorem dX12_init_20 : decode cX12_init 20 = .ok (.aload_n 0, 1) := by decide +kernel
theorem dX12_init_21 : decode cX12_init 21 = .ok (.bipush 12, 2) := by decide +kernel
theorem dX12_init_23 : decode cX12_init 23 = .ok (.newarray .int, 2) := by decide +kernel
theorem dX12_init_25 : decode cX12_init 25 = .ok (.putfield 16, 3) := by decide +kernel
theorem dX12_init_28 : decode cX12_init 28 = .ok (.aload_n 0, 1) := by decide +kernel
theorem dX12_init_29 : decode cX12_init 29 = .ok (.bipush 12, 2) := by decide +kernel
theorem dX12_init_31 : decode cX12_init 31 = .ok (.newarray .int, 2) := by decide +kernel
theorem dX12_init_33 : decode cX12_init 33 = .ok (.putfield 19, 3) := by decide +kernel
theorem dX12_init_36 : decode cX12_init 36 = .ok (.aload_n 0, 1) := by decide +kernel
theorem dX12_init_37 : decode cX12_init 37 = .ok (.bipush 12, 2) := by decide +kernel
theorem dX12_init_39 : decode cX12_init 39 = .ok (.newarray .int, 2) := by decide +kernel
theorem dX12_init_41 : decode cX12_init 41 = .ok (.putfield 22, 3) := by decide +kernel
theorem dX12_init_44 : decode cX12_init 44 = .ok (.aload_n 0, 1) := by decide +kernel
theorem dX12_init_45 : decode cX12_init 45 = .ok (.bipush 72, 2) := by decide +kernel
theorem dX12_init_47 : decode cX12_init 47 = .ok (.newarray .int, 2) := by decide +kernel
theorem dX12_init_49 : decode cX12_init 49 = .ok (.putfield 25, 3) := by decide +kernel
theorem dX12_init_52 : decode cX12_init 52 = .ok (.aload_n 0, 1) := by decide +kernel
theorem dX12_init_53 : decode cX12_init 53 = .ok (.bipush 12, 2) := by decide +kernel
theorem dX12_init_55 : decode cX12_init 55 = .ok (.newarray .int, 2) := by decide +kernel
theorem dX12_init_57 : decode cX12_init 57 = .ok (.putfield 28, 3) := by decide +kernel
theorem dX12_init_60 : decode cX12_init 60 = .ok (.aload_n 0, 1) := by decide +kernel
theorem dX12_init_61 : decode cX12_init 61 = .ok (.bipush 36, 2) := by decide +kernel
theorem dX12_init_63 : decode cX12_init 63 = .ok (.newarray .int, 2) := by decide +kernel
theorem dX12_init_65 : decode cX12_init 65 = .ok (.putfield 31, 3) := by decide +kernel
theorem dX12_init_68 : decode cX12_init 68 = .ok (.aload_n 0, 1) := by decide +kernel
theorem dX12_init_69 : decode cX12_init 69 = .ok (.sipush 576, 3) := by decide +kernel
theorem dX12_init_72 : decode cX12_init 72 = .ok (.newarray .int, 2) := by decide +kernel
theorem dX12_init_74 : decode cX12_init 74 = .ok (.putfield 34, 3) := by decide +kernel
theorem dX12_init_77 : decode cX12_init 77 = .ok (.aload_n 0, 1) := by decide +kernel
theorem dX12_init_78 : decode cX12_init 78 = .ok (.sipush 576, 3) := by decide +kernel
theorem dX12_init_81 : decode cX12_init 81 = .ok (.newarray .long, 2) := by decide +kernel
theorem dX12_init_83 : decode cX12_init 83 = .ok (.putfield 37, 3) := by decide +kernel
theorem dX12_init_86 : decode cX12_init 86 = .ok (.aload_n 0, 1) := by decide +kernel
theorem dX12_init_87 : decode cX12_init 87 = .ok (.sipush 576, 3) := by decide +kernel
theorem dX12_init_90 : decode cX12_init 90 = .ok (.newarray .long, 2) := by decide +kernel
theorem dX12_init_92 : decode cX12_init 92 = .ok (.putfield 41, 3) := by decide +kernel
theorem dX12_init_95 : decode cX12_init 95 = .ok (.aload_n 0, 1) := by decide +kernel
theorem dX12_init_96 : decode cX12_init 96 = .ok (.sipush 576, 3) := by decide +kernel
theorem dX12_init_99 : decode cX12_init 99 = .ok (.newarray .int, 2) := by decide +kernel
theorem dX12_init_101 : decode cX12_init 101 = .ok (.putfield 44, 3) := by decide +kernel
theorem dX12_init_104 : decode cX12_init 104 = .ok (.aload_n 0, 1) := by decide +kernel
theorem dX12_init_105 : decode cX12_init 105 = .ok (.sipush 3456, 3) := by decide +kernel
theorem dX12_init_108 : decode cX12_init 108 = .ok (.newarray .int, 2) := by decide +kernel
theorem dX12_init_110 : decode cX12_init 110 = .ok (.putfield 47, 3) := by decide +kernel
theorem dX12_init_113 : decode cX12_init 113 = .ok (.aload_n 0, 1) := by decide +kernel
theorem dX12_init_114 : decode cX12_init 114 = .ok (.sipush 576, 3) := by decide +kernel
theorem dX12_init_117 : decode cX12_init 117 = .ok (.newarray .int, 2) := by decide +kernel
theorem dX12_init_119 : decode cX12_init 119 = .ok (.putfield 50, 3) := by decide +kernel
theorem dX12_init_122 : decode cX12_init 122 = .ok (.aload_n 0, 1) := by decide +kernel
theorem dX12_init_123 : decode cX12_init 123 = .ok (.sipush 576, 3) := by decide +kernel
theorem dX12_init_126 : decode cX12_init 126 = .ok (.newarray .int, 2) := by decide +kernel
theorem dX12_init_128 : decode cX12_init 128 = .ok (.putfield 53, 3) := by decide +kernel
theorem dX12_init_131 : decode cX12_init 131 = .ok (.aload_n 0, 1) := by decide +kernel
theorem dX12_init_132 : decode cX12_init 132 = .ok (.sipush 576, 3) := by decide +kernel
theorem dX12_init_135 : decode cX12_init 135 = .ok (.newarray .int, 2) := by decide +kernel
theorem dX12_init_137 : decode cX12_init 137 = .ok (.putfield 56, 3) := by decide +kernel
theorem dX12_init_140 : decode cX12_init 140 = .ok (.aload_n 0, 1) := by decide +kernel
theorem dX12_init_141 : decode cX12_init 141 = .ok (.sipush 576, 3) := by decide +kernel
theorem dX12_init_144 : decode cX12_init 144 = .ok (.newarray .int, 2) := by decide +kernel
theorem dX12_init_146 : decode cX12_init 146 = .ok (.putfield 59, 3) := by decide +kernel
theorem dX12_init_149 : decode cX12_init 149 = .ok (.aload_n 0, 1) := by decide +kernel
theorem dX12_init_150 : decode cX12_init 150 = .ok (.bipush 12, 2) := by decide +kernel
theorem dX12_init_152 : decode cX12_init 152 = .ok (.newarray .long, 2) := by decide +kernel
theorem dX12_init_154 : decode cX12_init 154 = .ok (.putfield 62, 3) := by decide +kernel
theorem dX12_init_157 : decode cX12_init 157 = .ok (.aload_n 0, 1) := by decide +kernel
theorem dX12_init_158 : decode cX12_init 158 = .ok (.bipush 60, 2) := by decide +kernel
theorem dX12_init_160 : decode cX12_init 160 = .ok (.putfield 65, 3) := by decide +kernel
theorem dX12_init_163 : decode cX12_init 163 = .ok (.aload_n 0, 1) := by decide +kernel
theorem dX12_init_164 : decode cX12_init 164 = .ok (.iconst 1, 1) := by decide +kernel
theorem dX12_init_165 : decode cX12_init 165 = .ok (.putfield 69, 3) := by decide +kernel
theorem dX12_init_168 : decode cX12_init 168 = .ok (.aload_n 0, 1) := by decide +kernel
theorem dX12_init_169 : decode cX12_init 169 = .ok (.bipush 30, 2) := by decide +kernel
theorem dX12_init_171 : decode cX12_init 171 = .ok (.newarray .int, 2) := by decide +kernel
theorem dX12_init_173 : decode cX12_init 173 = .ok (.putfield 72, 3) := by decide +kernel
theorem dX12_init_176 : decode cX12_init 176 = .ok (.aload_n 0, 1) := by decide +kernel
theorem dX12_init_177 : decode cX12_init 177 = .ok (.bipush 30, 2) := by decide +kernel
theorem dX12_init_179 : decode cX12_init 179 = .ok (.newarray .int, 2) := by decide +kernel
theorem dX12_init_181 : decode cX12_init 181 = .ok (.putfield 75, 3) := by decide +kernel
theorem dX12_init_184 : decode cX12_init 184 = .ok (.aload_n 0, 1) := by decide +kernel
theorem dX12_init_185 : decode cX12_init 185 = .ok (.bipush 30, 2) := by decide +kernel
theorem dX12_init_187 : decode cX12_init 187 = .ok (.newarray .int, 2) := by decide +kernel
theorem dX12_init_189 : decode cX12_init 189 = .ok (.putfield 78, 3) := by decide +kernel
theorem dX12_init_192 : decode cX12_init 192 = .ok (.aload_n 0, 1) := by decide +kernel
theorem dX12_init_193 : decode cX12_init 193 = .ok (.bipush 30, 2) := by decide +kernel
theorem dX12_init_195 : decode cX12_init 195 = .ok (.newarray .int, 2) := by decide +kernel
theorem dX12_init_197 : decode cX12_init 197 = .ok (.putfield 81, 3) := by decide +kernel
theorem dX12_init_200 : decode cX12_init 200 = .ok (.aload_n 0, 1) := by decide +kernel
theorem dX12_init_201 : decode cX12_init 201 = .ok (.sipush 1000, 3) := by decide +kernel
theorem dX12_init_204 : decode cX12_init 204 = .ok (.newarray .int, 2) := by decide +kernel
theorem dX12_init_206 : decode cX12_init 206 = .ok (.putfield 84, 3) := by decide +kernel
theorem dX12_init_209 : decode cX12_init 209 = .ok (.aload_n 0, 1) := by decide +kernel
theorem dX12_init_210 : decode cX12_init 210 = .ok (.sipush 1000, 3) := by decide +kernel
theorem dX12_init_213 : decode cX12_init 213 = .ok (.newarray .int, 2) := by decide +kernel
theorem dX12_init_215 : decode cX12_init 215 = .ok (.putfield 87, 3) := by decide +kernel
theorem dX12_init_218 : decode cX12_init 218 = .ok (.aload_n 0, 1) := by decide +kernel
theorem dX12_init_219 : decode cX12_init 219 = .ok (.bipush 20, 2) := by decide +kernel
theorem dX12_init_221 : decode cX12_init 221 = .ok (.newarray .int, 2) := by decide +kernel
theorem dX12_init_223 : decode cX12_init 223 = .ok (.putfield 90, 3) := by decide +kernel
theorem dX12_init_226 : decode cX12_init 226 = .ok (.aload_n 0, 1) := by decide +kernel
theorem dX12_init_227 : decode cX12_init 227 = .ok (.bipush 20, 2) := by decide +kernel
theorem dX12_init_229 : decode cX12_init 229 = .ok (.newarray .int, 2) := by decide +kernel
theorem dX12_init_231 : decode cX12_init 231 = .ok (.putfield 93, 3) := by decide +kernel
theorem dX12_init_234 : decode cX12_init 234 = .ok (.aload_n 0, 1) := by decide +kernel
theorem dX12_init_235 : decode cX12_init 235 = .ok (.sipush 240, 3) := by decide +kernel
theorem dX12_init_238 : decode cX12_init 238 = .ok (.newarray .int, 2) := by decide +kernel
theorem dX12_init_240 : decode cX12_init 240 = .ok (.putfield 96, 3) := by decide +kernel
theorem dX12_init_243 : decode cX12_init 243 = .ok (.aload_n 0, 1) := by decide +kernel
theorem dX12_init_244 : decode cX12_init 244 = .ok (.bipush 9, 2) := by decide +kernel
theorem dX12_init_246 : decode cX12_init 246 = .ok (.newarray .int, 2) := by decide +kernel
theorem dX12_init_248 : decode cX12_init 248 = .ok (.putfield 99, 3) := by decide +kernel
theorem dX12_init_251 : decode cX12_init 251 = .ok (.aload_n 0, 1) := by decide +kernel
theorem dX12_init_252 : decode cX12_init 252 = .ok (.bipush 16, 2) := by decide +kernel
theorem dX12_init_254 : decode cX12_init 254 = .ok (.newarray .int, 2) := by decide +kernel
theorem dX12_init_256 : decode cX12_init 256 = .ok (.putfield 102, 3) := by decide +kernel
theorem dX12_init_259 : decode cX12_init 259 = .ok (.aload_n 0, 1) := by decide +kernel
theorem dX12_init_260 : decode cX12_init 260 = .ok (.bipush 16, 2) := by decide +kernel
theorem dX12_init_262 : decode cX12_init 262 = .ok (.newarray .int, 2) := by decide +kernel
theorem dX12_init_264 : decode cX12_init 264 = .ok (.putfield 105, 3) := by decide +kernel
theorem dX12_init_267 : decode cX12_init 267 = .ok (.aload_n 0, 1) := by decide +kernel
theorem dX12_init_268 : decode cX12_init 268 = .ok (.sipush 256, 3) := by decide +kernel
theorem dX12_init_271 : decode cX12_init 271 = .ok (.newarray .long, 2) := by decide +kernel
theorem dX12_init_273 : decode cX12_init 273 = .ok (.putfield 108, 3) := by decide +kernel
theorem dX12_init_276 : decode cX12_init 276 = .ok (.aload_n 0, 1) := by decide +kernel
theorem dX12_init_277 : decode cX12_init 277 = .ok (.bipush 16, 2) := by decide +kernel
theorem dX12_init_279 : decode cX12_init 279 = .ok (.newarray .boolean, 2) := by decide +kernel
theorem dX12_init_281 : decode cX12_init 281 = .ok (.putfield 111, 3) := by decide +kernel
theorem dX12_init_284 : decode cX12_init 284 = .ok (.aload_n 0, 1) := by decide +kernel
theorem dX12_init_285 : decode cX12_init 285 = .ok (.bipush 16, 2) := by decide +kernel
theorem dX12_init_287 : decode cX12_init 287 = .ok (.newarray .int, 2) := by decide +kernel
theorem dX12_init_289 : decode cX12_init 289 = .ok (.putfield 115, 3) := by decide +kernel
theorem dX12_init_292 : decode cX12_init 292 = .ok (.aload_n 0, 1) := by decide +kernel
theorem dX12_init_293 : decode cX12_init 293 = .ok (.bipush 16, 2) := by decide +kernel
theorem dX12_init_295 : decode cX12_init 295 = .ok (.newarray .int, 2) := by decide +kernel
theorem dX12_init_297 : decode cX12_init 297 = .ok (.putfield 118, 3) := by decide +kernel
theorem dX12_init_300 : decode cX12_init 300 = .ok (.aload_n 0, 1) := by decide +kernel
theorem dX12_init_301 : decode cX12_init 301 = .ok (.bipush 16, 2) := by decide +kernel
theorem dX12_init_303 : decode cX12_init 303 = .ok (.newarray .long, 2) := by decide +kernel
theorem dX12_init_305 : decode cX12_init 305 = .ok (.putfield 121, 3) := by decide +kernel
theorem dX12_init_308 : decode cX12_init 308 = .ok (.aload_n 0, 1) := by decide +kernel
theorem dX12_init_309 : decode cX12_init 309 = .ok (.bipush 16, 2) := by decide +kernel
theorem dX12_init_311 : decode cX12_init 311 = .ok (.newarray .int, 2) := by decide +kernel
theorem dX12_init_313 : decode cX12_init 313 = .ok (.putfield 124, 3) := by decide +kernel
theorem dX12_init_316 : decode cX12_init 316 = .ok (.aload_n 0, 1) := by decide +kernel
theorem dX12_init_317 : decode cX12_init 317 = .ok (.bipush 120, 2) := by decide +kernel
theorem dX12_init_319 : decode cX12_init 319 = .ok (.newarray .boolean, 2) := by decide +kernel
theorem dX12_init_321 : decode cX12_init 321 = .ok (.putfield 127, 3) := by decide +kernel
theorem dX12_init_324 : decode cX12_init 324 = .ok (.iconst 0, 1) := by decide +kernel
theorem dX12_init_325 : decode cX12_init 325 = .ok (.istore_n 1, 1) := by decide +kernel
theorem dX12_init_326 : decode cX12_init 326 = .ok (.iload_n 1, 1) := by decide +kernel
theorem dX12_init_327 : decode cX12_init 327 = .ok (.bipush 36, 2) := by decide +kernel
theorem dX12_init_329 : decode cX12_init 329 = .ok (.if_icmp .ge 16, 3) := by decide +kernel
theorem dX12_init_332 : decode cX12_init 332 = .ok (.aload_n 0, 1) := by decide +kernel
theorem dX12_init_333 : decode cX12_init 333 = .ok (.getfield 31, 3) := by decide +kernel
theorem dX12_init_336 : decode cX12_init 336 = .ok (.iload_n 1, 1) := by decide +kernel
theorem dX12_init_337 : decode cX12_init 337 = .ok (.iconst (-1), 1) := by decide +kernel
theorem dX12_init_338 : decode cX12_init 338 = .ok (.iastore, 1) := by decide +kernel
theorem dX12_init_339 : decode cX12_init 339 = .ok (.iinc 1 1, 3) := by decide +kernel
theorem dX12_init_342 : decode cX12_init 342 = .ok (.goto (-16), 3) := by decide +kernel
theorem dX12_init_345 : decode cX12_init 345 = .ok (.aload_n 0, 1) := by decide +kernel
theorem dX12_init_346 : decode cX12_init 346 = .ok (.getfield 72, 3) := by decide +kernel
theorem dX12_init_349 : decode cX12_init 349 = .ok (.iconst 0, 1) := by decide +kernel
theorem dX12_init_350 : decode cX12_init 350 = .ok (.bipush 10, 2) := by decide +kernel
theorem dX12_init_352 : decode cX12_init 352 = .ok (.iastore, 1) := by decide +kernel
theorem dX12_init_353 : decode cX12_init 353 = .ok (.aload_n 0, 1) := by decide +kernel
theorem dX12_init_354 : decode cX12_init 354 = .ok (.getfield 75, 3) := by decide +kernel
theorem dX12_init_357 : decode cX12_init 357 = .ok (.iconst 0, 1) := by decide +kernel
theorem dX12_init_358 : decode cX12_init 358 = .ok (.iconst 1, 1) := by decide +kernel
theorem dX12_init_359 : decode cX12_init 359 = .ok (.iastore, 1) := by decide +kernel
theorem dX12_init_360 : decode cX12_init 360 = .ok (.return_, 1) := by decide +kernel
theorem dX12_isIn_0 : decode cX12_isIn 0 = .ok (.lload_n 0, 1) := by decide +kernel
theorem dX12_isIn_1 : decode cX12_isIn 1 = .ok (.lload_n 2, 1) := by decide +kernel
theorem dX12_isIn_2 : decode cX12_isIn 2 = .ok (.lcmp, 1) := by decide +kernel
theorem dX12_isIn_3 : decode cX12_isIn 3 = .ok (.ifCond .lt 14, 3) := by decide +kernel
theorem dX12_isIn_6 : decode cX12_isIn 6 = .ok (.lload_n 0, 1) := by decide +kernel
theorem dX12_isIn_7 : decode cX12_isIn 7 = .ok (.lload 4, 2) := by decide +kernel
theorem dX12_isIn_9 : decode cX12_isIn 9 = .ok (.lcmp, 1) := by decide +kernel
theorem dX12_isIn_10 : decode cX12_isIn 10 = .ok (.ifCond .gt 7, 3) := by decide +kernel
theorem dX12_isIn_13 : decode cX12_isIn 13 = .ok (.iconst 1, 1) := by decide +kernel
theorem dX12_isIn_14 : decode cX12_isIn 14 = .ok (.goto 4, 3) := by decide +kernel
theorem dX12_isIn_17 : decode cX12_isIn 17 = .ok (.iconst 0, 1) := by decide +kernel
theorem dX12_isIn_18 : decode cX12_isIn 18 = .ok (.ireturn, 1) := by decide +kernel
theorem dX12_isStation_0 : decode cX12_isStation 0 = .ok (.iload_n 1, 1) := by decide +kernel
theorem dX12_isStation_1 : decode cX12_isStation 1 = .ok (.i2l, 1) := by decide +kernel
theorem dX12_isStation_2 : decode cX12_isStation 2 = .ok (.lconst 0, 1) := by decide +kernel
theorem dX12_isStation_3 : decode cX12_isStation 3 = .ok (.aload_n 0, 1) := by decide +kernel
theorem dX12_isStation_4 : decode cX12_isStation 4 = .ok (.getfield 130, 3) := by decide +kernel
theorem dX12_isStation_7 : decode cX12_isStation 7 = .ok (.iconst 1, 1) := by decide +kernel
theorem dX12_isStation_8 : decode cX12_isStation 8 = .ok (.isub, 1) := by decide +kernel
theorem dX12_isStation_9 : decode cX12_isStation 9 = .ok (.i2l, 1) := by decide +kernel
theorem dX12_isStation_10 : decode cX12_isStation 10 = .ok (.invokestatic 133, 3) := by decide +kernel
theorem dX12_isStation_13 : decode cX12_isStation 13 = .ok (.ireturn, 1) := by decide +kernel
theorem dX12_feed_0 : decode cX12_feed 0 = .ok (.aload_n 0, 1) := by decide +kernel
theorem dX12_feed_1 : decode cX12_feed 1 = .ok (.getfield 137, 3) := by decide +kernel
theorem dX12_feed_4 : decode cX12_feed 4 = .ok (.sipush 980, 3) := by decide +kernel
theorem dX12_feed_7 : decode cX12_feed 7 = .ok (.if_icmp .le 5, 3) := by decide +kernel
theorem dX12_feed_10 : decode cX12_feed 10 = .ok (.iconst (-1), 1) := by decide +kernel
theorem dX12_feed_11 : decode cX12_feed 11 = .ok (.ireturn, 1) := by decide +kernel
theorem dX12_feed_12 : decode cX12_feed 12 = .ok (.iconst 0, 1) := by decide +kernel
theorem dX12_feed_13 : decode cX12_feed 13 = .ok (.istore 6, 2) := by decide +kernel
theorem dX12_feed_15 : decode cX12_feed 15 = .ok (.iload 6, 2) := by decide +kernel
theorem dX12_feed_17 : decode cX12_feed 17 = .ok (.bipush 20, 2) := by decide +kernel
theorem dX12_feed_19 : decode cX12_feed 19 = .ok (.if_icmp .ge 93, 3) := by decide +kernel
theorem dX12_feed_22 : decode cX12_feed 22 = .ok (.iload 6, 2) := by decide +kernel
theorem dX12_feed_24 : decode cX12_feed 24 = .ok (.iconst 4, 1) := by decide +kernel
theorem dX12_feed_25 : decode cX12_feed 25 = .ok (.if_icmp .ge 7, 3) := by decide +kernel
theorem dX12_feed_28 : decode cX12_feed 28 = .ok (.iload_n 1, 1) := by decide +kernel
theorem dX12_feed_29 : decode cX12_feed 29 = .ok (.goto 39, 3) := by decide +kernel
theorem dX12_feed_32 : decode cX12_feed 32 = .ok (.iload 6, 2) := by decide +kernel
theorem dX12_feed_34 : decode cX12_feed 34 = .ok (.bipush 8, 2) := by decide +kernel
theorem dX12_feed_36 : decode cX12_feed 36 = .ok (.if_icmp .ge 7, 3) := by decide +kernel
theorem dX12_feed_39 : decode cX12_feed 39 = .ok (.iload_n 2, 1) := by decide +kernel
theorem dX12_feed_40 : decode cX12_feed 40 = .ok (.goto 28, 3) := by decide +kernel
theorem dX12_feed_43 : decode cX12_feed 43 = .ok (.iload 6, 2) := by decide +kernel
theorem dX12_feed_45 : decode cX12_feed 45 = .ok (.bipush 12, 2) := by decide +kernel
theorem dX12_feed_47 : decode cX12_feed 47 = .ok (.if_icmp .ge 7, 3) := by decide +kernel
theorem dX12_feed_50 : decode cX12_feed 50 = .ok (.iload_n 3, 1) := by decide +kernel
theorem dX12_feed_51 : decode cX12_feed 51 = .ok (.goto 17, 3) := by decide +kernel
theorem dX12_feed_54 : decode cX12_feed 54 = .ok (.iload 6, 2) := by decide +kernel
theorem dX12_feed_56 : decode cX12_feed 56 = .ok (.bipush 16, 2) := by decide +kernel
theorem dX12_feed_58 : decode cX12_feed 58 = .ok (.if_icmp .ge 8, 3) := by decide +kernel
theorem dX12_feed_61 : decode cX12_feed 61 = .ok (.iload 4, 2) := by decide +kernel
theorem dX12_feed_63 : decode cX12_feed 63 = .ok (.goto 5, 3) := by decide +kernel
theorem dX12_feed_66 : decode cX12_feed 66 = .ok (.iload 5, 2) := by decide +kernel
theorem dX12_feed_68 : decode cX12_feed 68 = .ok (.istore 7, 2) := by decide +kernel
theorem dX12_feed_70 : decode cX12_feed 70 = .ok (.aload_n 0, 1) := by decide +kernel
theorem dX12_feed_71 : decode cX12_feed 71 = .ok (.getfield 84, 3) := by decide +kernel
theorem dX12_feed_74 : decode cX12_feed 74 = .ok (.aload_n 0, 1) := by decide +kernel
theorem dX12_feed_75 : decode cX12_feed 75 = .ok (.getfield 137, 3) := by decide +kernel
theorem dX12_feed_78 : decode cX12_feed 78 = .ok (.iload 7, 2) := by decide +kernel
theorem dX12_feed_80 : decode cX12_feed 80 = .ok (.bipush 24, 2) := by decide +kernel
theorem dX12_feed_82 : decode cX12_feed 82 = .ok (.bipush 8, 2) := by decide +kernel
theorem dX12_feed_84 : decode cX12_feed 84 = .ok (.iload 6, 2) := by decide +kernel
theorem dX12_feed_86 : decode cX12_feed 86 = .ok (.iconst 4, 1) := by decide +kernel
theorem dX12_feed_87 : decode cX12_feed 87 = .ok (.irem, 1) := by decide +kernel
theorem dX12_feed_88 : decode cX12_feed 88 = .ok (.imul, 1) := by decide +kernel
theorem dX12_feed_89 : decode cX12_feed 89 = .ok (.isub, 1) := by decide +kernel
theorem dX12_feed_90 : decode cX12_feed 90 = .ok (.ishr, 1) := by decide +kernel
theorem dX12_feed_91 : decode cX12_feed 91 = .ok (.sipush 255, 3) := by decide +kernel
theorem dX12_feed_94 : decode cX12_feed 94 = .ok (.iand, 1) := by decide +kernel
theorem dX12_feed_95 : decode cX12_feed 95 = .ok (.iastore, 1) := by decide +kernel
theorem dX12_feed_96 : decode cX12_feed 96 = .ok (.aload_n 0, 1) := by decide +kernel
theorem dX12_feed_97 : decode cX12_feed 97 = .ok (.dup, 1) := by decide +kernel
theorem dX12_feed_98 : decode cX12_feed 98 = .ok (.getfield 137, 3) := by decide +kernel
theorem dX12_feed_101 : decode cX12_feed 101 = .ok (.iconst 1, 1) := by decide +kernel
theorem dX12_feed_102 : decode cX12_feed 102 = .ok (.iadd, 1) := by decide +kernel
theorem dX12_feed_103 : decode cX12_feed 103 = .ok (.putfield 137, 3) := by decide +kernel
theorem dX12_feed_106 : decode cX12_feed 106 = .ok (.iinc 6 1, 3) := by decide +kernel
theorem dX12_feed_109 : decode cX12_feed 109 = .ok (.goto (-94), 3) := by decide +kernel
theorem dX12_feed_112 : decode cX12_feed 112 = .ok (.aload_n 0, 1) := by decide +kernel
theorem dX12_feed_113 : decode cX12_feed 113 = .ok (.getfield 137, 3) := by decide +kernel
theorem dX12_feed_116 : decode cX12_feed 116 = .ok (.ireturn, 1) := by decide +kernel
theorem dX12_end_0 : decode cX12_end 0 = .ok (.iload_n 1, 1) := by decide +kernel
theorem dX12_end_1 : decode cX12_end 1 = .ok (.i2l, 1) := by decide +kernel
theorem dX12_end_2 : decode cX12_end 2 = .ok (.lconst 0, 1) := by decide +kernel
theorem dX12_end_3 : decode cX12_end 3 = .ok (.aload_n 0, 1) := by decide +kernel
theorem dX12_end_4 : decode cX12_end 4 = .ok (.getfield 137, 3) := by decide +kernel
theorem dX12_end_7 : decode cX12_end 7 = .ok (.i2l, 1) := by decide +kernel
theorem dX12_end_8 : decode cX12_end 8 = .ok (.invokestatic 133, 3) := by decide +kernel
theorem dX12_end_11 : decode cX12_end 11 = .ok (.ifCond .ne 5, 3) := by decide +kernel
theorem dX12_end_14 : decode cX12_end 14 = .ok (.iconst (-1), 1) := by decide +kernel
theorem dX12_end_15 : decode cX12_end 15 = .ok (.ireturn, 1) := by decide +kernel
theorem dX12_end_16 : decode cX12_end 16 = .ok (.aload_n 0, 1) := by decide +kernel
theorem dX12_end_17 : decode cX12_end 17 = .ok (.iload_n 1, 1) := by decide +kernel
theorem dX12_end_18 : decode cX12_end 18 = .ok (.putfield 137, 3) := by decide +kernel
theorem dX12_end_21 : decode cX12_end 21 = .ok (.iload_n 1, 1) := by decide +kernel
theorem dX12_end_22 : decode cX12_end 22 = .ok (.ireturn, 1) := by decide +kernel
theorem dX12_next_0 : decode cX12_next 0 = .ok (.aload_n 0, 1) := by decide +kernel
theorem dX12_next_1 : decode cX12_next 1 = .ok (.getfield 140, 3) := by decide +kernel
theorem dX12_next_4 : decode cX12_next 4 = .ok (.aload_n 0, 1) := by decide +kernel
theorem dX12_next_5 : decode cX12_next 5 = .ok (.getfield 143, 3) := by decide +kernel
theorem dX12_next_8 : decode cX12_next 8 = .ok (.if_icmp .ge 30, 3) := by decide +kernel
theorem dX12_next_11 : decode cX12_next 11 = .ok (.aload_n 0, 1) := by decide +kernel
theorem dX12_next_12 : decode cX12_next 12 = .ok (.getfield 84, 3) := by decide +kernel
theorem dX12_next_15 : decode cX12_next 15 = .ok (.aload_n 0, 1) := by decide +kernel
theorem dX12_next_16 : decode cX12_next 16 = .ok (.getfield 140, 3) := by decide +kernel
theorem dX12_next_19 : decode cX12_next 19 = .ok (.iaload, 1) := by decide +kernel
theorem dX12_next_20 : decode cX12_next 20 = .ok (.bipush 32, 2) := by decide +kernel
theorem dX12_next_22 : decode cX12_next 22 = .ok (.if_icmp .ne 16, 3) := by decide +kernel
theorem dX12_next_25 : decode cX12_next 25 = .ok (.aload_n 0, 1) := by decide +kernel
theorem dX12_next_26 : decode cX12_next 26 = .ok (.dup, 1) := by decide +kernel
theorem dX12_next_27 : decode cX12_next 27 = .ok (.getfield 140, 3) := by decide +kernel
theorem dX12_next_30 : decode cX12_next 30 = .ok (.iconst 1, 1) := by decide +kernel
theorem dX12_next_31 : decode cX12_next 31 = .ok (.iadd, 1) := by decide +kernel
theorem dX12_next_32 : decode cX12_next 32 = .ok (.putfield 140, 3) := by decide +kernel
theorem dX12_next_35 : decode cX12_next 35 = .ok (.goto (-35), 3) := by decide +kernel
theorem dX12_next_38 : decode cX12_next 38 = .ok (.aload_n 0, 1) := by decide +kernel
theorem dX12_next_39 : decode cX12_next 39 = .ok (.aload_n 0, 1) := by decide +kernel
theorem dX12_next_40 : decode cX12_next 40 = .ok (.getfield 140, 3) := by decide +kernel
theorem dX12_next_43 : decode cX12_next 43 = .ok (.putfield 146, 3) := by decide +kernel
theorem dX12_next_46 : decode cX12_next 46 = .ok (.aload_n 0, 1) := by decide +kernel
theorem dX12_next_47 : decode cX12_next 47 = .ok (.getfield 140, 3) := by decide +kernel
theorem dX12_next_50 : decode cX12_next 50 = .ok (.aload_n 0, 1) := by decide +kernel
theorem dX12_next_51 : decode cX12_next 51 = .ok (.getfield 143, 3) := by decide +kernel
theorem dX12_next_54 : decode cX12_next 54 = .ok (.if_icmp .ge 30, 3) := by decide +kernel
theorem dX12_next_57 : decode cX12_next 57 = .ok (.aload_n 0, 1) := by decide +kernel
theorem dX12_next_58 : decode cX12_next 58 = .ok (.getfield 84, 3) := by decide +kernel
theorem dX12_next_61 : decode cX12_next 61 = .ok (.aload_n 0, 1) := by decide +kernel
theorem dX12_next_62 : decode cX12_next 62 = .ok (.getfield 140, 3) := by decide +kernel
theorem dX12_next_65 : decode cX12_next 65 = .ok (.iaload, 1) := by decide +kernel
theorem dX12_next_66 : decode cX12_next 66 = .ok (.bipush 32, 2) := by decide +kernel
theorem dX12_next_68 : decode cX12_next 68 = .ok (.if_icmp .eq 16, 3) := by decide +kernel
theorem dX12_next_71 : decode cX12_next 71 = .ok (.aload_n 0, 1) := by decide +kernel
theorem dX12_next_72 : decode cX12_next 72 = .ok (.dup, 1) := by decide +kernel
theorem dX12_next_73 : decode cX12_next 73 = .ok (.getfield 140, 3) := by decide +kernel
theorem dX12_next_76 : decode cX12_next 76 = .ok (.iconst 1, 1) := by decide +kernel
theorem dX12_next_77 : decode cX12_next 77 = .ok (.iadd, 1) := by decide +kernel
theorem dX12_next_78 : decode cX12_next 78 = .ok (.putfield 140, 3) := by decide +kernel
theorem dX12_next_81 : decode cX12_next 81 = .ok (.goto (-35), 3) := by decide +kernel
theorem dX12_next_84 : decode cX12_next 84 = .ok (.aload_n 0, 1) := by decide +kernel
theorem dX12_next_85 : decode cX12_next 85 = .ok (.aload_n 0, 1) := by decide +kernel
theorem dX12_next_86 : decode cX12_next 86 = .ok (.getfield 140, 3) := by decide +kernel
theorem dX12_next_89 : decode cX12_next 89 = .ok (.aload_n 0, 1) := by decide +kernel
theorem dX12_next_90 : decode cX12_next 90 = .ok (.getfield 146, 3) := by decide +kernel
theorem dX12_next_93 : decode cX12_next 93 = .ok (.isub, 1) := by decide +kernel
theorem dX12_next_94 : decode cX12_next 94 = .ok (.putfield 149, 3) := by decide +kernel
theorem dX12_next_97 : decode cX12_next 97 = .ok (.return_, 1) := by decide +kernel
theorem dX12_isCallByte_0 : decode cX12_isCallByte 0 = .ok (.iload_n 0, 1) := by decide +kernel
theorem dX12_isCallByte_1 : decode cX12_isCallByte 1 = .ok (.i2l, 1) := by decide +kernel
theorem dX12_isCallByte_2 : decode cX12_isCallByte 2 = .ok (.ldc2_w 152, 3) := by decide +kernel
theorem dX12_isCallByte_5 : decode cX12_isCallByte 5 = .ok (.ldc2_w 154, 3) := by decide +kernel
theorem dX12_isCallByte_8 : decode cX12_isCallByte 8 = .ok (.invokestatic 133, 3) := by decide +kernel
theorem dX12_isCallByte_11 : decode cX12_isCallByte 11 = .ok (.ifCond .ne 17, 3) := by decide +kernel
theorem dX12_isCallByte_14 : decode cX12_isCallByte 14 = .ok (.iload_n 0, 1) := by decide +kernel
theorem dX12_isCallByte_15 : decode cX12_isCallByte 15 = .ok (.i2l, 1) := by decide +kernel
theorem dX12_isCallByte_16 : decode cX12_isCallByte 16 = .ok (.ldc2_w 156, 3) := by decide +kernel
theorem dX12_isCallByte_19 : decode cX12_isCallByte 19 = .ok (.ldc2_w 158, 3) := by decide +kernel
theorem dX12_isCallByte_22 : decode cX12_isCallByte 22 = .ok (.invokestatic 133, 3) := by decide +kernel
theorem dX12_isCallByte_25 : decode cX12_isCallByte 25 = .ok (.ifCond .eq 7, 3) := by decide +kernel
theorem dX12_isCallByte_28 : decode cX12_isCallByte 28 = .ok (.iconst 1, 1) := by decide +kernel
theorem dX12_isCallByte_29 : decode cX12_isCallByte 29 = .ok (.goto 4, 3) := by decide +kernel
theorem dX12_isCallByte_32 : decode cX12_isCallByte 32 = .ok (.iconst 0, 1) := by decide +kernel
theorem dX12_isCallByte_33 : decode cX12_isCallByte 33 = .ok (.ireturn, 1) := by decide +kernel
theorem dX12_isCall_0 : decode cX12_isCall 0 = .ok (.iload_n 2, 1) := by decide +kernel
theorem dX12_isCall_1 : decode cX12_isCall 1 = .ok (.i2l, 1) := by decide +kernel
theorem dX12_isCall_2 : decode cX12_isCall 2 = .ok (.lconst 1, 1) := by decide +kernel
theorem dX12_isCall_3 : decode cX12_isCall 3 = .ok (.ldc2_w 160, 3) := by decide +kernel
theorem dX12_isCall_6 : decode cX12_isCall 6 = .ok (.invokestatic 133, 3) := by decide +kernel
theorem dX12_isCall_9 : decode cX12_isCall 9 = .ok (.istore_n 3, 1) := by decide +kernel
theorem dX12_isCall_10 : decode cX12_isCall 10 = .ok (.iconst 0, 1) := by decide +kernel
theorem dX12_isCall_11 : decode cX12_isCall 11 = .ok (.istore 4, 2) := by decide +kernel
theorem dX12_isCall_13 : decode cX12_isCall 13 = .ok (.iload 4, 2) := by decide +kernel
theorem dX12_isCall_15 : decode cX12_isCall 15 = .ok (.iload_n 2, 1) := by decide +kernel
theorem dX12_isCall_16 : decode cX12_isCall 16 = .ok (.if_icmp .ge 26, 3) := by decide +kernel
theorem dX12_isCall_19 : decode cX12_isCall 19 = .ok (.iload_n 3, 1) := by decide +kernel
theorem dX12_isCall_20 : decode cX12_isCall 20 = .ok (.ifCond .eq 22, 3) := by decide +kernel
theorem dX12_isCall_23 : decode cX12_isCall 23 = .ok (.aload_n 0, 1) := by decide +kernel
theorem dX12_isCall_24 : decode cX12_isCall 24 = .ok (.getfield 84, 3) := by decide +kernel
theorem dX12_isCall_27 : decode cX12_isCall 27 = .ok (.iload_n 1, 1) := by decide +kernel
theorem dX12_isCall_28 : decode cX12_isCall 28 = .ok (.iload 4, 2) := by decide +kernel
theorem dX12_isCall_30 : decode cX12_isCall 30 = .ok (.iadd, 1) := by decide +kernel
theorem dX12_isCall_31 : decode cX12_isCall 31 = .ok (.iaload, 1) := by decide +kernel
theorem dX12_isCall_32 : decode cX12_isCall 32 = .ok (.invokestatic 162, 3) := by decide +kernel
theorem dX12_isCall_35 : decode cX12_isCall 35 = .ok (.istore_n 3, 1) := by decide +kernel
theorem dX12_isCall_36 : decode cX12_isCall 36 = .ok (.iinc 4 1, 3) := by decide +kernel
theorem dX12_isCall_39 : decode cX12_isCall 39 = .ok (.goto (-26), 3) := by decide +kernel
theorem dX12_isCall_42 : decode cX12_isCall 42 = .ok (.iload_n 3, 1) := by decide +kernel
theorem dX12_isCall_43 : decode cX12_isCall 43 = .ok (.ireturn, 1) := by decide +kernel
theorem dX12_isNumber_0 : decode cX12_isNumber 0 = .ok (.aload_n 0, 1) := by decide +kernel
theorem dX12_isNumber_1 : decode cX12_isNumber 1 = .ok (.getfield 149, 3) := by decide +kernel
theorem dX12_isNumber_4 : decode cX12_isNumber 4 = .ok (.i2l, 1) := by decide +kernel
theorem dX12_isNumber_5 : decode cX12_isNumber 5 = .ok (.lconst 1, 1) := by decide +kernel
theorem dX12_isNumber_6 : decode cX12_isNumber 6 = .ok (.iload_n 1, 1) := by decide +kernel
theorem dX12_isNumber_7 : decode cX12_isNumber 7 = .ok (.i2l, 1) := by decide +kernel
theorem dX12_isNumber_8 : decode cX12_isNumber 8 = .ok (.invokestatic 133, 3) := by decide +kernel
theorem dX12_isNumber_11 : decode cX12_isNumber 11 = .ok (.istore_n 2, 1) := by decide +kernel
theorem dX12_isNumber_12 : decode cX12_isNumber 12 = .ok (.iconst 0, 1) := by decide +kernel
theorem dX12_isNumber_13 : decode cX12_isNumber 13 = .ok (.istore_n 3, 1) := by decide +kernel
theorem dX12_isNumber_14 : decode cX12_isNumber 14 = .ok (.iload_n 3, 1) := by decide +kernel
theorem dX12_isNumber_15 : decode cX12_isNumber 15 = .ok (.aload_n 0, 1) := by decide +kernel
theorem dX12_isNumber_16 : decode cX12_isNumber 16 = .ok (.getfield 149, 3) := by decide +kernel
theorem dX12_isNumber_19 : decode cX12_isNumber 19 = .ok (.if_icmp .ge 35, 3) := by decide +kernel
theorem dX12_isNumber_22 : decode cX12_isNumber 22 = .ok (.iload_n 2, 1) := by decide +kernel
theorem dX12_isNumber_23 : decode cX12_isNumber 23 = .ok (.ifCond .eq 31, 3) := by decide +kernel
theorem dX12_isNumber_26 : decode cX12_isNumber 26 = .ok (.aload_n 0, 1) := by decide +kernel
theorem dX12_isNumber_27 : decode cX12_isNumber 27 = .ok (.getfield 84, 3) := by decide +kernel
theorem dX12_isNumber_30 : decode cX12_isNumber 30 = .ok (.aload_n 0, 1) := by decide +kernel
theorem dX12_isNumber_31 : decode cX12_isNumber 31 = .ok (.getfield 146, 3) := by decide +kernel
theorem dX12_isNumber_34 : decode cX12_isNumber 34 = .ok (.iload_n 3, 1) := by decide +kernel
theorem dX12_isNumber_35 : decode cX12_isNumber 35 = .ok (.iadd, 1) := by decide +kernel
theorem dX12_isNumber_36 : decode cX12_isNumber 36 = .ok (.iaload, 1) := by decide +kernel
theorem dX12_isNumber_37 : decode cX12_isNumber 37 = .ok (.i2l, 1) := by decide +kernel
theorem dX12_isNumber_38 : decode cX12_isNumber 38 = .ok (.ldc2_w 152, 3) := by decide +kernel
theorem dX12_isNumber_41 : decode cX12_isNumber 41 = .ok (.ldc2_w 154, 3) := by decide +kernel
theorem dX12_isNumber_44 : decode cX12_isNumber 44 = .ok (.invokestatic 133, 3) := by decide +kernel
theorem dX12_isNumber_47 : decode cX12_isNumber 47 = .ok (.istore_n 2, 1) := by decide +kernel
theorem dX12_isNumber_48 : decode cX12_isNumber 48 = .ok (.iinc 3 1, 3) := by decide +kernel
theorem dX12_isNumber_51 : decode cX12_isNumber 51 = .ok (.goto (-37), 3) := by decide +kernel
theorem dX12_isNumber_54 : decode cX12_isNumber 54 = .ok (.iload_n 2, 1) := by decide +kernel
theorem dX12_isNumber_55 : decode cX12_isNumber 55 = .ok (.ireturn, 1) := by decide +kernel
theorem dX12_numberHere_0 : decode cX12_numberHere 0 = .ok (.lconst 0, 1) := by decide +kernel
theorem dX12_numberHere_1 : decode cX12_numberHere 1 = .ok (.lstore_n 1, 1) := by decide +kernel
theorem dX12_numberHere_2 : decode cX12_numberHere 2 = .ok (.iconst 0, 1) := by decide +kernel
theorem dX12_numberHere_3 : decode cX12_numberHere 3 = .ok (.istore_n 3, 1) := by decide +kernel
theorem dX12_numberHere_4 : decode cX12_numberHere 4 = .ok (.iload_n 3, 1) := by decide +kernel
theorem dX12_numberHere_5 : decode cX12_numberHere 5 = .ok (.aload_n 0, 1) := by decide +kernel
theorem dX12_numberHere_6 : decode cX12_numberHere 6 = .ok (.getfield 149, 3) := by decide +kernel
theorem dX12_numberHere_9 : decode cX12_numberHere 9 = .ok (.if_icmp .ge 32, 3) := by decide +kernel
theorem dX12_numberHere_12 : decode cX12_numberHere 12 = .ok (.ldc2_w 166, 3) := by decide +kernel
theorem dX12_numberHere_15 : decode cX12_numberHere 15 = .ok (.lload_n 1, 1) := by decide +kernel
theorem dX12_numberHere_16 : decode cX12_numberHere 16 = .ok (.lmul, 1) := by decide +kernel
theorem dX12_numberHere_17 : decode cX12_numberHere 17 = .ok (.aload_n 0, 1) := by decide +kernel
theorem dX12_numberHere_18 : decode cX12_numberHere 18 = .ok (.getfield 84, 3) := by decide +kernel
theorem dX12_numberHere_21 : decode cX12_numberHere 21 = .ok (.aload_n 0, 1) := by decide +kernel
theorem dX12_numberHere_22 : decode cX12_numberHere 22 = .ok (.getfield 146, 3) := by decide +kernel
theorem dX12_numberHere_25 : decode cX12_numberHere 25 = .ok (.iload_n 3, 1) := by decide +kernel
theorem dX12_numberHere_26 : decode cX12_numberHere 26 = .ok (.iadd, 1) := by decide +kernel
theorem dX12_numberHere_27 : decode cX12_numberHere 27 = .ok (.iaload, 1) := by decide +kernel
theorem dX12_numberHere_28 : decode cX12_numberHere 28 = .ok (.i2l, 1) := by decide +kernel
theorem dX12_numberHere_29 : decode cX12_numberHere 29 = .ok (.ladd, 1) := by decide +kernel
theorem dX12_numberHere_30 : decode cX12_numberHere 30 = .ok (.ldc2_w 152, 3) := by decide +kernel
theorem dX12_numberHere_33 : decode cX12_numberHere 33 = .ok (.lsub, 1) := by decide +kernel
theorem dX12_numberHere_34 : decode cX12_numberHere 34 = .ok (.lstore_n 1, 1) := by decide +kernel
theorem dX12_numberHere_35 : decode cX12_numberHere 35 = .ok (.iinc 3 1, 3) := by decide +kernel
theorem dX12_numberHere_38 : decode cX12_numberHere 38 = .ok (.goto (-34), 3) := by decide +kernel
theorem dX12_numberHere_41 : decode cX12_numberHere 41 = .ok (.lload_n 1, 1) := by decide +kernel
theorem dX12_numberHere_42 : decode cX12_numberHere 42 = .ok (.lreturn, 1) := by decide +kernel
theorem dX12_isByte_0 : decode cX12_isByte 0 = .ok (.aload_n 0, 1) := by decide +kernel
theorem dX12_isByte_1 : decode cX12_isByte 1 = .ok (.getfield 149, 3) := by decide +kernel
theorem dX12_isByte_4 : decode cX12_isByte 4 = .ok (.iconst 1, 1) := by decide +kernel
theorem dX12_isByte_5 : decode cX12_isByte 5 = .ok (.if_icmp .ne 20, 3) := by decide +kernel
theorem dX12_isByte_8 : decode cX12_isByte 8 = .ok (.aload_n 0, 1) := by decide +kernel
theorem dX12_isByte_9 : decode cX12_isByte 9 = .ok (.getfield 84, 3) := by decide +kernel
theorem dX12_isByte_12 : decode cX12_isByte 12 = .ok (.aload_n 0, 1) := by decide +kernel
theorem dX12_isByte_13 : decode cX12_isByte 13 = .ok (.getfield 146, 3) := by decide +kernel
theorem dX12_isByte_16 : decode cX12_isByte 16 = .ok (.iaload, 1) := by decide +kernel
theorem dX12_isByte_17 : decode cX12_isByte 17 = .ok (.iload_n 1, 1) := by decide +kernel
theorem dX12_isByte_18 : decode cX12_isByte 18 = .ok (.if_icmp .ne 7, 3) := by decide +kernel
theorem dX12_isByte_21 : decode cX12_isByte 21 = .ok (.iconst 1, 1) := by decide +kernel
theorem dX12_isByte_22 : decode cX12_isByte 22 = .ok (.goto 4, 3) := by decide +kernel
theorem dX12_isByte_25 : decode cX12_isByte 25 = .ok (.iconst 0, 1) := by decide +kernel
theorem dX12_isByte_26 : decode cX12_isByte 26 = .ok (.ireturn, 1) := by decide +kernel
theorem dX12_hasCall_0 : decode cX12_hasCall 0 = .ok (.aload_n 0, 1) := by decide +kernel
theorem dX12_hasCall_1 : decode cX12_hasCall 1 = .ok (.getfield 22, 3) := by decide +kernel
theorem dX12_hasCall_4 : decode cX12_hasCall 4 = .ok (.iload_n 1, 1) := by decide +kernel
theorem dX12_hasCall_5 : decode cX12_hasCall 5 = .ok (.iaload, 1) := by decide +kernel
theorem dX12_hasCall_6 : decode cX12_hasCall 6 = .ok (.iload 4, 2) := by decide +kernel
theorem dX12_hasCall_8 : decode cX12_hasCall 8 = .ok (.if_icmp .ne 7, 3) := by decide +kernel
theorem dX12_hasCall_11 : decode cX12_hasCall 11 = .ok (.iconst 1, 1) := by decide +kernel
theorem dX12_hasCall_12 : decode cX12_hasCall 12 = .ok (.goto 4, 3) := by decide +kernel
theorem dX12_hasCall_15 : decode cX12_hasCall 15 = .ok (.iconst 0, 1) := by decide +kernel
theorem dX12_hasCall_16 : decode cX12_hasCall 16 = .ok (.istore 5, 2) := by decide +kernel
theorem dX12_hasCall_18 : decode cX12_hasCall 18 = .ok (.iconst 0, 1) := by decide +kernel
theorem dX12_hasCall_19 : decode cX12_hasCall 19 = .ok (.istore 6, 2) := by decide +kernel
theorem dX12_hasCall_21 : decode cX12_hasCall 21 = .ok (.iload 6, 2) := by decide +kernel
theorem dX12_hasCall_23 : decode cX12_hasCall 23 = .ok (.iload 4, 2) := by decide +kernel
theorem dX12_hasCall_25 : decode cX12_hasCall 25 = .ok (.if_icmp .ge 42, 3) := by decide +kernel
theorem dX12_hasCall_28 : decode cX12_hasCall 28 = .ok (.iload 5, 2) := by decide +kernel
theorem dX12_hasCall_30 : decode cX12_hasCall 30 = .ok (.ifCond .eq 37, 3) := by decide +kernel
theorem dX12_hasCall_33 : decode cX12_hasCall 33 = .ok (.aload_n 0, 1) := by decide +kernel
theorem dX12_hasCall_34 : decode cX12_hasCall 34 = .ok (.getfield 25, 3) := by decide +kernel
theorem dX12_hasCall_37 : decode cX12_hasCall 37 = .ok (.bipush 6, 2) := by decide +kernel
theorem dX12_hasCall_39 : decode cX12_hasCall 39 = .ok (.iload_n 1, 1) := by decide +kernel
theorem dX12_hasCall_40 : decode cX12_hasCall 40 = .ok (.imul, 1) := by decide +kernel
theorem dX12_hasCall_41 : decode cX12_hasCall 41 = .ok (.iload 6, 2) := by decide +kernel
theorem dX12_hasCall_43 : decode cX12_hasCall 43 = .ok (.iadd, 1) := by decide +kernel
theorem dX12_hasCall_44 : decode cX12_hasCall 44 = .ok (.iaload, 1) := by decide +kernel
theorem dX12_hasCall_45 : decode cX12_hasCall 45 = .ok (.aload_n 2, 1) := by decide +kernel
theorem dX12_hasCall_46 : decode cX12_hasCall 46 = .ok (.iload_n 3, 1) := by decide +kernel
theorem dX12_hasCall_47 : decode cX12_hasCall 47 = .ok (.iload 6, 2) := by decide +kernel
theorem dX12_hasCall_49 : decode cX12_hasCall 49 = .ok (.iadd, 1) := by decide +kernel
theorem dX12_hasCall_50 : decode cX12_hasCall 50 = .ok (.iaload, 1) := by decide +kernel
theorem dX12_hasCall_51 : decode cX12_hasCall 51 = .ok (.if_icmp .ne 7, 3) := by decide +kernel
theorem dX12_hasCall_54 : decode cX12_hasCall 54 = .ok (.iconst 1, 1) := by decide +kernel
theorem dX12_hasCall_55 : decode cX12_hasCall 55 = .ok (.goto 4, 3) := by decide +kernel
theorem dX12_hasCall_58 : decode cX12_hasCall 58 = .ok (.iconst 0, 1) := by decide +kernel
theorem dX12_hasCall_59 : decode cX12_hasCall 59 = .ok (.istore 5, 2) := by decide +kernel
theorem dX12_hasCall_61 : decode cX12_hasCall 61 = .ok (.iinc 6 1, 3) := by decide +kernel
theorem dX12_hasCall_64 : decode cX12_hasCall 64 = .ok (.goto (-43), 3) := by decide +kernel
theorem dX12_hasCall_67 : decode cX12_hasCall 67 = .ok (.iload 5, 2) := by decide +kernel
theorem dX12_hasCall_69 : decode cX12_hasCall 69 = .ok (.ireturn, 1) := by decide +kernel
theorem dX12_withCall_0 : decode cX12_withCall 0 = .ok (.iconst (-1), 1) := by decide +kernel
theorem dX12_withCall_1 : decode cX12_withCall 1 = .ok (.istore 4, 2) := by decide +kernel
theorem dX12_withCall_3 : decode cX12_withCall 3 = .ok (.iconst 0, 1) := by decide +kernel
theorem dX12_withCall_4 : decode cX12_withCall 4 = .ok (.istore 5, 2) := by decide +kernel
theorem dX12_withCall_6 : decode cX12_withCall 6 = .ok (.iload 5, 2) := by decide +kernel
theorem dX12_withCall_8 : decode cX12_withCall 8 = .ok (.aload_n 0, 1) := by decide +kernel
theorem dX12_withCall_9 : decode cX12_withCall 9 = .ok (.getfield 130, 3) := by decide +kernel
theorem dX12_withCall_12 : decode cX12_withCall 12 = .ok (.if_icmp .ge 30, 3) := by decide +kernel
theorem dX12_withCall_15 : decode cX12_withCall 15 = .ok (.aload_n 0, 1) := by decide +kernel
theorem dX12_withCall_16 : decode cX12_withCall 16 = .ok (.iload 5, 2) := by decide +kernel
theorem dX12_withCall_18 : decode cX12_withCall 18 = .ok (.aload_n 1, 1) := by decide +kernel
theorem dX12_withCall_19 : decode cX12_withCall 19 = .ok (.iload_n 2, 1) := by decide +kernel
theorem dX12_withCall_20 : decode cX12_withCall 20 = .ok (.iload_n 3, 1) := by decide +kernel
theorem dX12_withCall_21 : decode cX12_withCall 21 = .ok (.invokevirtual 168, 3) := by decide +kernel
theorem dX12_withCall_24 : decode cX12_withCall 24 = .ok (.ifCond .eq 8, 3) := by decide +kernel
theorem dX12_withCall_27 : decode cX12_withCall 27 = .ok (.iload 5, 2) := by decide +kernel
theorem dX12_withCall_29 : decode cX12_withCall 29 = .ok (.goto 5, 3) := by decide +kernel
theorem dX12_withCall_32 : decode cX12_withCall 32 = .ok (.iload 4, 2) := by decide +kernel
theorem dX12_withCall_34 : decode cX12_withCall 34 = .ok (.istore 4, 2) := by decide +kernel
theorem dX12_withCall_36 : decode cX12_withCall 36 = .ok (.iinc 5 1, 3) := by decide +kernel
theorem dX12_withCall_39 : decode cX12_withCall 39 = .ok (.goto (-33), 3) := by decide +kernel
theorem dX12_withCall_42 : decode cX12_withCall 42 = .ok (.iload 4, 2) := by decide +kernel
theorem dX12_withCall_44 : decode cX12_withCall 44 = .ok (.ireturn, 1) := by decide +kernel
theorem dX12_station_0 : decode cX12_station 0 = .ok (.aload_n 0, 1) := by decide +kernel
theorem dX12_station_1 : decode cX12_station 1 = .ok (.getfield 137, 3) := by decide +kernel
theorem dX12_station_4 : decode cX12_station 4 = .ok (.istore 5, 2) := by decide +kernel
theorem dX12_station_6 : decode cX12_station 6 = .ok (.aload_n 0, 1) := by decide +kernel
theorem dX12_station_7 : decode cX12_station 7 = .ok (.iconst 0, 1) := by decide +kernel
theorem dX12_station_8 : decode cX12_station 8 = .ok (.putfield 137, 3) := by decide +kernel
theorem dX12_station_11 : decode cX12_station 11 = .ok (.iload_n 1, 1) := by decide +kernel
theorem dX12_station_12 : decode cX12_station 12 = .ok (.i2l, 1) := by decide +kernel
theorem dX12_station_13 : decode cX12_station 13 = .ok (.lconst 0, 1) := by decide +kernel
theorem dX12_station_14 : decode cX12_station 14 = .ok (.ldc2_w 172, 3) := by decide +kernel
theorem dX12_station_17 : decode cX12_station 17 = .ok (.invokestatic 133, 3) := by decide +kernel
theorem dX12_station_20 : decode cX12_station 20 = .ok (.ifCond .eq 40, 3) := by decide +kernel
theorem dX12_station_23 : decode cX12_station 23 = .ok (.iload_n 2, 1) := by decide +kernel
theorem dX12_station_24 : decode cX12_station 24 = .ok (.i2l, 1) := by decide +kernel
theorem dX12_station_25 : decode cX12_station 25 = .ok (.lconst 0, 1) := by decide +kernel
theorem dX12_station_26 : decode cX12_station 26 = .ok (.ldc2_w 174, 3) := by decide +kernel
theorem dX12_station_29 : decode cX12_station 29 = .ok (.invokestatic 133, 3) := by decide +kernel
theorem dX12_station_32 : decode cX12_station 32 = .ok (.ifCond .eq 28, 3) := by decide +kernel
theorem dX12_station_35 : decode cX12_station 35 = .ok (.iload_n 3, 1) := by decide +kernel
theorem dX12_station_36 : decode cX12_station 36 = .ok (.i2l, 1) := by decide +kernel
theorem dX12_station_37 : decode cX12_station 37 = .ok (.lconst 0, 1) := by decide +kernel
theorem dX12_station_38 : decode cX12_station 38 = .ok (.ldc2_w 176, 3) := by decide +kernel
theorem dX12_station_41 : decode cX12_station 41 = .ok (.invokestatic 133, 3) := by decide +kernel
theorem dX12_station_44 : decode cX12_station 44 = .ok (.ifCond .eq 16, 3) := by decide +kernel
theorem dX12_station_47 : decode cX12_station 47 = .ok (.iload 4, 2) := by decide +kernel
theorem dX12_station_49 : decode cX12_station 49 = .ok (.i2l, 1) := by decide +kernel
theorem dX12_station_50 : decode cX12_station 50 = .ok (.lconst 0, 1) := by decide +kernel
theorem dX12_station_51 : decode cX12_station 51 = .ok (.ldc2_w 176, 3) := by decide +kernel
theorem dX12_station_54 : decode cX12_station 54 = .ok (.invokestatic 133, 3) := by decide +kernel
theorem dX12_station_57 : decode cX12_station 57 = .ok (.ifCond .ne 5, 3) := by decide +kernel
theorem dX12_station_60 : decode cX12_station 60 = .ok (.iconst (-1), 1) := by decide +kernel
theorem dX12_station_61 : decode cX12_station 61 = .ok (.ireturn, 1) := by decide +kernel
theorem dX12_station_62 : decode cX12_station 62 = .ok (.aload_n 0, 1) := by decide +kernel
theorem dX12_station_63 : decode cX12_station 63 = .ok (.iconst 0, 1) := by decide +kernel
theorem dX12_station_64 : decode cX12_station 64 = .ok (.iload 5, 2) := by decide +kernel
theorem dX12_station_66 : decode cX12_station 66 = .ok (.invokevirtual 178, 3) := by decide +kernel
theorem dX12_station_69 : decode cX12_station 69 = .ok (.ifCond .ne 6, 3) := by decide +kernel
theorem dX12_station_72 : decode cX12_station 72 = .ok (.bipush (-2), 2) := by decide +kernel
theorem dX12_station_74 : decode cX12_station 74 = .ok (.ireturn, 1) := by decide +kernel
theorem dX12_station_75 : decode cX12_station 75 = .ok (.aload_n 0, 1) := by decide +kernel
theorem dX12_station_76 : decode cX12_station 76 = .ok (.aload_n 0, 1) := by decide +kernel
theorem dX12_station_77 : decode cX12_station 77 = .ok (.getfield 84, 3) := by decide +kernel
theorem dX12_station_80 : decode cX12_station 80 = .ok (.iconst 0, 1) := by decide +kernel
theorem dX12_station_81 : decode cX12_station 81 = .ok (.iload 5, 2) := by decide +kernel
theorem dX12_station_83 : decode cX12_station 83 = .ok (.invokevirtual 182, 3) := by decide +kernel
theorem dX12_station_86 : decode cX12_station 86 = .ok (.ifCond .lt 6, 3) := by decide +kernel
theorem dX12_station_89 : decode cX12_station 89 = .ok (.bipush (-3), 2) := by decide +kernel
theorem dX12_station_91 : decode cX12_station 91 = .ok (.ireturn, 1) := by decide +kernel
theorem dX12_station_92 : decode cX12_station 92 = .ok (.aload_n 0, 1) := by decide +kernel
theorem dX12_station_93 : decode cX12_station 93 = .ok (.getfield 130, 3) := by decide +kernel
theorem dX12_station_96 : decode cX12_station 96 = .ok (.bipush 12, 2) := by decide +kernel
theorem dX12_station_98 : decode cX12_station 98 = .ok (.if_icmp .ne 6, 3) := by decide +kernel
theorem dX12_station_101 : decode cX12_station 101 = .ok (.bipush (-4), 2) := by decide +kernel
theorem dX12_station_103 : decode cX12_station 103 = .ok (.ireturn, 1) := by decide +kernel
theorem dX12_station_104 : decode cX12_station 104 = .ok (.aload_n 0, 1) := by decide +kernel
theorem dX12_station_105 : decode cX12_station 105 = .ok (.getfield 7, 3) := by decide +kernel
theorem dX12_station_108 : decode cX12_station 108 = .ok (.aload_n 0, 1) := by decide +kernel
theorem dX12_station_109 : decode cX12_station 109 = .ok (.getfield 130, 3) := by decide +kernel
theorem dX12_station_112 : decode cX12_station 112 = .ok (.iload_n 1, 1) := by decide +kernel
theorem dX12_station_113 : decode cX12_station 113 = .ok (.iastore, 1) := by decide +kernel
theorem dX12_station_114 : decode cX12_station 114 = .ok (.aload_n 0, 1) := by decide +kernel
theorem dX12_station_115 : decode cX12_station 115 = .ok (.getfield 13, 3) := by decide +kernel
theorem dX12_station_118 : decode cX12_station 118 = .ok (.aload_n 0, 1) := by decide +kernel
theorem dX12_station_119 : decode cX12_station 119 = .ok (.getfield 130, 3) := by decide +kernel
theorem dX12_station_122 : decode cX12_station 122 = .ok (.iload_n 2, 1) := by decide +kernel
theorem dX12_station_123 : decode cX12_station 123 = .ok (.iastore, 1) := by decide +kernel
theorem dX12_station_124 : decode cX12_station 124 = .ok (.aload_n 0, 1) := by decide +kernel
theorem dX12_station_125 : decode cX12_station 125 = .ok (.getfield 16, 3) := by decide +kernel
theorem dX12_station_128 : decode cX12_station 128 = .ok (.aload_n 0, 1) := by decide +kernel
theorem dX12_station_129 : decode cX12_station 129 = .ok (.getfield 130, 3) := by decide +kernel
theorem dX12_station_132 : decode cX12_station 132 = .ok (.iload_n 3, 1) := by decide +kernel
theorem dX12_station_133 : decode cX12_station 133 = .ok (.iastore, 1) := by decide +kernel
theorem dX12_station_134 : decode cX12_station 134 = .ok (.aload_n 0, 1) := by decide +kernel
theorem dX12_station_135 : decode cX12_station 135 = .ok (.getfield 19, 3) := by decide +kernel
theorem dX12_station_138 : decode cX12_station 138 = .ok (.aload_n 0, 1) := by decide +kernel
theorem dX12_station_139 : decode cX12_station 139 = .ok (.getfield 130, 3) := by decide +kernel
theorem dX12_station_142 : decode cX12_station 142 = .ok (.iload 4, 2) := by decide +kernel
theorem dX12_station_144 : decode cX12_station 144 = .ok (.iastore, 1) := by decide +kernel
theorem dX12_station_145 : decode cX12_station 145 = .ok (.aload_n 0, 1) := by decide +kernel
theorem dX12_station_146 : decode cX12_station 146 = .ok (.getfield 22, 3) := by decide +kernel
theorem dX12_station_149 : decode cX12_station 149 = .ok (.aload_n 0, 1) := by decide +kernel
theorem dX12_station_150 : decode cX12_station 150 = .ok (.getfield 130, 3) := by decide +kernel
theorem dX12_station_153 : decode cX12_station 153 = .ok (.iload 5, 2) := by decide +kernel
theorem dX12_station_155 : decode cX12_station 155 = .ok (.iastore, 1) := by decide +kernel
theorem dX12_station_156 : decode cX12_station 156 = .ok (.iconst 0, 1) := by decide +kernel
theorem dX12_station_157 : decode cX12_station 157 = .ok (.istore 6, 2) := by decide +kernel
theorem dX12_station_159 : decode cX12_station 159 = .ok (.iload 6, 2) := by decide +kernel
theorem dX12_station_161 : decode cX12_station 161 = .ok (.iload 5, 2) := by decide +kernel
theorem dX12_station_163 : decode cX12_station 163 = .ok (.if_icmp .ge 31, 3) := by decide +kernel
theorem dX12_station_166 : decode cX12_station 166 = .ok (.aload_n 0, 1) := by decide +kernel
theorem dX12_station_167 : decode cX12_station 167 = .ok (.getfield 25, 3) := by decide +kernel
theorem dX12_station_170 : decode cX12_station 170 = .ok (.bipush 6, 2) := by decide +kernel
theorem dX12_station_172 : decode cX12_station 172 = .ok (.aload_n 0, 1) := by decide +kernel
theorem dX12_station_173 : decode cX12_station 173 = .ok (.getfield 130, 3) := by decide +kernel
theorem dX12_station_176 : decode cX12_station 176 = .ok (.imul, 1) := by decide +kernel
theorem dX12_station_177 : decode cX12_station 177 = .ok (.iload 6, 2) := by decide +kernel
theorem dX12_station_179 : decode cX12_station 179 = .ok (.iadd, 1) := by decide +kernel
theorem dX12_station_180 : decode cX12_station 180 = .ok (.aload_n 0, 1) := by decide +kernel
theorem dX12_station_181 : decode cX12_station 181 = .ok (.getfield 84, 3) := by decide +kernel
theorem dX12_station_184 : decode cX12_station 184 = .ok (.iload 6, 2) := by decide +kernel
theorem dX12_station_186 : decode cX12_station 186 = .ok (.iaload, 1) := by decide +kernel
theorem dX12_station_187 : decode cX12_station 187 = .ok (.iastore, 1) := by decide +kernel
theorem dX12_station_188 : decode cX12_station 188 = .ok (.iinc 6 1, 3) := by decide +kernel
theorem dX12_station_191 : decode cX12_station 191 = .ok (.goto (-32), 3) := by decide +kernel
theorem dX12_station_194 : decode cX12_station 194 = .ok (.aload_n 0, 1) := by decide +kernel
theorem dX12_station_195 : decode cX12_station 195 = .ok (.dup, 1) := by decide +kernel
theorem dX12_station_196 : decode cX12_station 196 = .ok (.getfield 130, 3) := by decide +kernel
theorem dX12_station_199 : decode cX12_station 199 = .ok (.iconst 1, 1) := by decide +kernel
theorem dX12_station_200 : decode cX12_station 200 = .ok (.iadd, 1) := by decide +kernel
theorem dX12_station_201 : decode cX12_station 201 = .ok (.putfield 130, 3) := by decide +kernel
theorem dX12_station_204 : decode cX12_station 204 = .ok (.aload_n 0, 1) := by decide +kernel
theorem dX12_station_205 : decode cX12_station 205 = .ok (.iconst 0, 1) := by decide +kernel
theorem dX12_station_206 : decode cX12_station 206 = .ok (.putfield 186, 3) := by decide +kernel
theorem dX12_station_209 : decode cX12_station 209 = .ok (.aload_n 0, 1) := by decide +kernel
theorem dX12_station_210 : decode cX12_station 210 = .ok (.getfield 130, 3) := by decide +kernel
theorem dX12_station_213 : decode cX12_station 213 = .ok (.iconst 1, 1) := by decide +kernel
theorem dX12_station_214 : decode cX12_station 214 = .ok (.isub, 1) := by decide +kernel
theorem dX12_station_215 : decode cX12_station 215 = .ok (.ireturn, 1) := by decide +kernel
theorem dX12_join_0 : decode cX12_join 0 = .ok (.aload_n 0, 1) := by decide +kernel
theorem dX12_join_1 : decode cX12_join 1 = .ok (.iload_n 2, 1) := by decide +kernel
theorem dX12_join_2 : decode cX12_join 2 = .ok (.invokevirtual 190, 3) := by decide +kernel
theorem dX12_join_5 : decode cX12_join 5 = .ok (.ifCond .eq 21, 3) := by decide +kernel
theorem dX12_join_8 : decode cX12_join 8 = .ok (.aload_n 0, 1) := by decide +kernel
theorem dX12_join_9 : decode cX12_join 9 = .ok (.iload_n 1, 1) := by decide +kernel
theorem dX12_join_10 : decode cX12_join 10 = .ok (.invokevirtual 190, 3) := by decide +kernel
theorem dX12_join_13 : decode cX12_join 13 = .ok (.ifCond .eq 13, 3) := by decide +kernel
theorem dX12_join_16 : decode cX12_join 16 = .ok (.aload_n 0, 1) := by decide +kernel
theorem dX12_join_17 : decode cX12_join 17 = .ok (.getfield 7, 3) := by decide +kernel
theorem dX12_join_20 : decode cX12_join 20 = .ok (.iload_n 1, 1) := by decide +kernel
theorem dX12_join_21 : decode cX12_join 21 = .ok (.iaload, 1) := by decide +kernel
theorem dX12_join_22 : decode cX12_join 22 = .ok (.iconst 4, 1) := by decide +kernel
theorem dX12_join_23 : decode cX12_join 23 = .ok (.if_icmp .eq 5, 3) := by decide +kernel
theorem dX12_join_26 : decode cX12_join 26 = .ok (.iconst (-1), 1) := by decide +kernel
theorem dX12_join_27 : decode cX12_join 27 = .ok (.ireturn, 1) := by decide +kernel
theorem dX12_join_28 : decode cX12_join 28 = .ok (.aload_n 0, 1) := by decide +kernel
theorem dX12_join_29 : decode cX12_join 29 = .ok (.getfield 7, 3) := by decide +kernel
theorem dX12_join_32 : decode cX12_join 32 = .ok (.iload_n 2, 1) := by decide +kernel
theorem dX12_join_33 : decode cX12_join 33 = .ok (.iaload, 1) := by decide +kernel
theorem dX12_join_34 : decode cX12_join 34 = .ok (.iconst 4, 1) := by decide +kernel
theorem dX12_join_35 : decode cX12_join 35 = .ok (.if_icmp .ne 6, 3) := by decide +kernel
theorem dX12_join_38 : decode cX12_join 38 = .ok (.bipush (-2), 2) := by decide +kernel
theorem dX12_join_40 : decode cX12_join 40 = .ok (.ireturn, 1) := by decide +kernel
theorem dX12_join_41 : decode cX12_join 41 = .ok (.aload_n 0, 1) := by decide +kernel
theorem dX12_join_42 : decode cX12_join 42 = .ok (.getfield 28, 3) := by decide +kernel
theorem dX12_join_45 : decode cX12_join 45 = .ok (.iload_n 2, 1) := by decide +kernel
theorem dX12_join_46 : decode cX12_join 46 = .ok (.iaload, 1) := by decide +kernel
theorem dX12_join_47 : decode cX12_join 47 = .ok (.ifCond .le 6, 3) := by decide +kernel
theorem dX12_join_50 : decode cX12_join 50 = .ok (.bipush (-3), 2) := by decide +kernel
theorem dX12_join_52 : decode cX12_join 52 = .ok (.ireturn, 1) := by decide +kernel
theorem dX12_join_53 : decode cX12_join 53 = .ok (.aload_n 0, 1) := by decide +kernel
theorem dX12_join_54 : decode cX12_join 54 = .ok (.getfield 28, 3) := by decide +kernel
theorem dX12_join_57 : decode cX12_join 57 = .ok (.iload_n 2, 1) := by decide +kernel
theorem dX12_join_58 : decode cX12_join 58 = .ok (.iload_n 1, 1) := by decide +kernel
theorem dX12_join_59 : decode cX12_join 59 = .ok (.iconst 1, 1) := by decide +kernel
theorem dX12_join_60 : decode cX12_join 60 = .ok (.iadd, 1) := by decide +kernel
theorem dX12_join_61 : decode cX12_join 61 = .ok (.iastore, 1) := by decide +kernel
theorem dX12_join_62 : decode cX12_join 62 = .ok (.iconst 0, 1) := by decide +kernel
theorem dX12_join_63 : decode cX12_join 63 = .ok (.istore_n 3, 1) := by decide +kernel
theorem dX12_join_64 : decode cX12_join 64 = .ok (.iconst 0, 1) := by decide +kernel
theorem dX12_join_65 : decode cX12_join 65 = .ok (.istore 4, 2) := by decide +kernel
theorem dX12_join_67 : decode cX12_join 67 = .ok (.iload 4, 2) := by decide +kernel
theorem dX12_join_69 : decode cX12_join 69 = .ok (.aload_n 0, 1) := by decide +kernel
theorem dX12_join_70 : decode cX12_join 70 = .ok (.getfield 130, 3) := by decide +kernel
theorem dX12_join_73 : decode cX12_join 73 = .ok (.if_icmp .ge 30, 3) := by decide +kernel
theorem dX12_join_76 : decode cX12_join 76 = .ok (.iload_n 3, 1) := by decide +kernel
theorem dX12_join_77 : decode cX12_join 77 = .ok (.aload_n 0, 1) := by decide +kernel
theorem dX12_join_78 : decode cX12_join 78 = .ok (.getfield 28, 3) := by decide +kernel
theorem dX12_join_81 : decode cX12_join 81 = .ok (.iload 4, 2) := by decide +kernel
theorem dX12_join_83 : decode cX12_join 83 = .ok (.iaload, 1) := by decide +kernel
theorem dX12_join_84 : decode cX12_join 84 = .ok (.iload_n 1, 1) := by decide +kernel
theorem dX12_join_85 : decode cX12_join 85 = .ok (.iconst 1, 1) := by decide +kernel
theorem dX12_join_86 : decode cX12_join 86 = .ok (.iadd, 1) := by decide +kernel
theorem dX12_join_87 : decode cX12_join 87 = .ok (.if_icmp .ne 7, 3) := by decide +kernel
theorem dX12_join_90 : decode cX12_join 90 = .ok (.iconst 1, 1) := by decide +kernel
theorem dX12_join_91 : decode cX12_join 91 = .ok (.goto 4, 3) := by decide +kernel
theorem dX12_join_94 : decode cX12_join 94 = .ok (.iconst 0, 1) := by decide +kernel
theorem dX12_join_95 : decode cX12_join 95 = .ok (.iadd, 1) := by decide +kernel
theorem dX12_join_96 : decode cX12_join 96 = .ok (.istore_n 3, 1) := by decide +kernel
theorem dX12_join_97 : decode cX12_join 97 = .ok (.iinc 4 1, 3) := by decide +kernel
theorem dX12_join_100 : decode cX12_join 100 = .ok (.goto (-33), 3) := by decide +kernel
theorem dX12_join_103 : decode cX12_join 103 = .ok (.iload_n 3, 1) := by decide +kernel
theorem dX12_join_104 : decode cX12_join 104 = .ok (.ireturn, 1) := by decide +kernel
theorem dX12_isContact_0 : decode cX12_isContact 0 = .ok (.aload_n 0, 1) := by decide +kernel
theorem dX12_isContact_1 : decode cX12_isContact 1 = .ok (.invokevirtual 193, 3) := by decide +kernel
theorem dX12_isContact_4 : decode cX12_isContact 4 = .ok (.aload_n 0, 1) := by decide +kernel
theorem dX12_isContact_5 : decode cX12_isContact 5 = .ok (.bipush 10, 2) := by decide +kernel
theorem dX12_isContact_7 : decode cX12_isContact 7 = .ok (.invokevirtual 196, 3) := by decide +kernel
theorem dX12_isContact_10 : decode cX12_isContact 10 = .ok (.ifCond .ne 5, 3) := by decide +kernel
theorem dX12_isContact_13 : decode cX12_isContact 13 = .ok (.iconst 0, 1) := by decide +kernel
theorem dX12_isContact_14 : decode cX12_isContact 14 = .ok (.ireturn, 1) := by decide +kernel
theorem dX12_isContact_15 : decode cX12_isContact 15 = .ok (.aload_n 0, 1) := by decide +kernel
theorem dX12_isContact_16 : decode cX12_isContact 16 = .ok (.aload_n 0, 1) := by decide +kernel
theorem dX12_isContact_17 : decode cX12_isContact 17 = .ok (.invokevirtual 199, 3) := by decide +kernel
theorem dX12_isContact_20 : decode cX12_isContact 20 = .ok (.putfield 203, 3) := by decide +kernel
theorem dX12_isContact_23 : decode cX12_isContact 23 = .ok (.aload_n 0, 1) := by decide +kernel
theorem dX12_isContact_24 : decode cX12_isContact 24 = .ok (.invokevirtual 193, 3) := by decide +kernel
theorem dX12_isContact_27 : decode cX12_isContact 27 = .ok (.aload_n 0, 1) := by decide +kernel
theorem dX12_isContact_28 : decode cX12_isContact 28 = .ok (.aload_n 0, 1) := by decide +kernel
theorem dX12_isContact_29 : decode cX12_isContact 29 = .ok (.getfield 146, 3) := by decide +kernel
theorem dX12_isContact_32 : decode cX12_isContact 32 = .ok (.aload_n 0, 1) := by decide +kernel
theorem dX12_isContact_33 : decode cX12_isContact 33 = .ok (.getfield 149, 3) := by decide +kernel
theorem dX12_isContact_36 : decode cX12_isContact 36 = .ok (.invokevirtual 178, 3) := by decide +kernel
theorem dX12_isContact_39 : decode cX12_isContact 39 = .ok (.ifCond .ne 5, 3) := by decide +kernel
theorem dX12_isContact_42 : decode cX12_isContact 42 = .ok (.iconst 0, 1) := by decide +kernel
theorem dX12_isContact_43 : decode cX12_isContact 43 = .ok (.ireturn, 1) := by decide +kernel
theorem dX12_isContact_44 : decode cX12_isContact 44 = .ok (.aload_n 0, 1) := by decide +kernel
theorem dX12_isContact_45 : decode cX12_isContact 45 = .ok (.aload_n 0, 1) := by decide +kernel
theorem dX12_isContact_46 : decode cX12_isContact 46 = .ok (.getfield 146, 3) := by decide +kernel
theorem dX12_isContact_49 : decode cX12_isContact 49 = .ok (.putfield 207, 3) := by decide +kernel
theorem dX12_isContact_52 : decode cX12_isContact 52 = .ok (.aload_n 0, 1) := by decide +kernel
theorem dX12_isContact_53 : decode cX12_isContact 53 = .ok (.aload_n 0, 1) := by decide +kernel
theorem dX12_isContact_54 : decode cX12_isContact 54 = .ok (.getfield 149, 3) := by decide +kernel
theorem dX12_isContact_57 : decode cX12_isContact 57 = .ok (.putfield 210, 3) := by decide +kernel
theorem dX12_isContact_60 : decode cX12_isContact 60 = .ok (.aload_n 0, 1) := by decide +kernel
theorem dX12_isContact_61 : decode cX12_isContact 61 = .ok (.invokevirtual 193, 3) := by decide +kernel
theorem dX12_isContact_64 : decode cX12_isContact 64 = .ok (.aload_n 0, 1) := by decide +kernel
theorem dX12_isContact_65 : decode cX12_isContact 65 = .ok (.getfield 149, 3) := by decide +kernel
theorem dX12_isContact_68 : decode cX12_isContact 68 = .ok (.ifCond .ne 5, 3) := by decide +kernel
theorem dX12_isContact_71 : decode cX12_isContact 71 = .ok (.iconst 1, 1) := by decide +kernel
theorem dX12_isContact_72 : decode cX12_isContact 72 = .ok (.ireturn, 1) := by decide +kernel
theorem dX12_isContact_73 : decode cX12_isContact 73 = .ok (.aload_n 0, 1) := by decide +kernel
theorem dX12_isContact_74 : decode cX12_isContact 74 = .ok (.iconst 5, 1) := by decide +kernel
theorem dX12_isContact_75 : decode cX12_isContact 75 = .ok (.invokevirtual 196, 3) := by decide +kernel
theorem dX12_isContact_78 : decode cX12_isContact 78 = .ok (.ifCond .ne 5, 3) := by decide +kernel
theorem dX12_isContact_81 : decode cX12_isContact 81 = .ok (.iconst 0, 1) := by decide +kernel
theorem dX12_isContact_82 : decode cX12_isContact 82 = .ok (.ireturn, 1) := by decide +kernel
theorem dX12_isContact_83 : decode cX12_isContact 83 = .ok (.aload_n 0, 1) := by decide +kernel
theorem dX12_isContact_84 : decode cX12_isContact 84 = .ok (.aload_n 0, 1) := by decide +kernel
theorem dX12_isContact_85 : decode cX12_isContact 85 = .ok (.invokevirtual 199, 3) := by decide +kernel
theorem dX12_isContact_88 : decode cX12_isContact 88 = .ok (.l2i, 1) := by decide +kernel
theorem dX12_isContact_89 : decode cX12_isContact 89 = .ok (.putfield 213, 3) := by decide +kernel
theorem dX12_isContact_92 : decode cX12_isContact 92 = .ok (.aload_n 0, 1) := by decide +kernel
theorem dX12_isContact_93 : decode cX12_isContact 93 = .ok (.invokevirtual 193, 3) := by decide +kernel
theorem dX12_isContact_96 : decode cX12_isContact 96 = .ok (.aload_n 0, 1) := by decide +kernel
theorem dX12_isContact_97 : decode cX12_isContact 97 = .ok (.getfield 149, 3) := by decide +kernel
theorem dX12_isContact_100 : decode cX12_isContact 100 = .ok (.ifCond .ne 5, 3) := by decide +kernel
theorem dX12_isContact_103 : decode cX12_isContact 103 = .ok (.iconst 1, 1) := by decide +kernel
theorem dX12_isContact_104 : decode cX12_isContact 104 = .ok (.ireturn, 1) := by decide +kernel
theorem dX12_isContact_105 : decode cX12_isContact 105 = .ok (.aload_n 0, 1) := by decide +kernel
theorem dX12_isContact_106 : decode cX12_isContact 106 = .ok (.iconst 5, 1) := by decide +kernel
theorem dX12_isContact_107 : decode cX12_isContact 107 = .ok (.invokevirtual 196, 3) := by decide +kernel
theorem dX12_isContact_110 : decode cX12_isContact 110 = .ok (.ifCond .ne 5, 3) := by decide +kernel
theorem dX12_isContact_113 : decode cX12_isContact 113 = .ok (.iconst 0, 1) := by decide +kernel
theorem dX12_isContact_114 : decode cX12_isContact 114 = .ok (.ireturn, 1) := by decide +kernel
theorem dX12_isContact_115 : decode cX12_isContact 115 = .ok (.aload_n 0, 1) := by decide +kernel
theorem dX12_isContact_116 : decode cX12_isContact 116 = .ok (.aload_n 0, 1) := by decide +kernel
theorem dX12_isContact_117 : decode cX12_isContact 117 = .ok (.invokevirtual 199, 3) := by decide +kernel
theorem dX12_isContact_120 : decode cX12_isContact 120 = .ok (.l2i, 1) := by decide +kernel
theorem dX12_isContact_121 : decode cX12_isContact 121 = .ok (.putfield 216, 3) := by decide +kernel
theorem dX12_isContact_124 : decode cX12_isContact 124 = .ok (.aload_n 0, 1) := by decide +kernel
theorem dX12_isContact_125 : decode cX12_isContact 125 = .ok (.invokevirtual 193, 3) := by decide +kernel
theorem dX12_isContact_128 : decode cX12_isContact 128 = .ok (.aload_n 0, 1) := by decide +kernel
theorem dX12_isContact_129 : decode cX12_isContact 129 = .ok (.getfield 149, 3) := by decide +kernel
theorem dX12_isContact_132 : decode cX12_isContact 132 = .ok (.ifCond .ne 7, 3) := by decide +kernel
theorem dX12_isContact_135 : decode cX12_isContact 135 = .ok (.iconst 1, 1) := by decide +kernel
theorem dX12_isContact_136 : decode cX12_isContact 136 = .ok (.goto 4, 3) := by decide +kernel
theorem dX12_isContact_139 : decode cX12_isContact 139 = .ok (.iconst 0, 1) := by decide +kernel
theorem dX12_isContact_140 : decode cX12_isContact 140 = .ok (.ireturn, 1) := by decide +kernel
theorem dX12_isRest_0 : decode cX12_isRest 0 = .ok (.aload_n 0, 1) := by decide +kernel
theorem dX12_isRest_1 : decode cX12_isRest 1 = .ok (.invokevirtual 193, 3) := by decide +kernel
theorem dX12_isRest_4 : decode cX12_isRest 4 = .ok (.aload_n 0, 1) := by decide +kernel
theorem dX12_isRest_5 : decode cX12_isRest 5 = .ok (.bipush 10, 2) := by decide +kernel
theorem dX12_isRest_7 : decode cX12_isRest 7 = .ok (.invokevirtual 196, 3) := by decide +kernel
