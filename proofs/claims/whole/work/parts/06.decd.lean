theorem dX12_isRest_10 : decode cX12_isRest 10 = .ok (.ifCond .ne 5, 3) := by decide +kernel
theorem dX12_isRest_13 : decode cX12_isRest 13 = .ok (.iconst 0, 1) := by decide +kernel
theorem dX12_isRest_14 : decode cX12_isRest 14 = .ok (.ireturn, 1) := by decide +kernel
theorem dX12_isRest_15 : decode cX12_isRest 15 = .ok (.aload_n 0, 1) := by decide +kernel
theorem dX12_isRest_16 : decode cX12_isRest 16 = .ok (.aload_n 0, 1) := by decide +kernel
theorem dX12_isRest_17 : decode cX12_isRest 17 = .ok (.invokevirtual 199, 3) := by decide +kernel
theorem dX12_isRest_20 : decode cX12_isRest 20 = .ok (.putfield 203, 3) := by decide +kernel
theorem dX12_isRest_23 : decode cX12_isRest 23 = .ok (.aload_n 0, 1) := by decide +kernel
theorem dX12_isRest_24 : decode cX12_isRest 24 = .ok (.invokevirtual 193, 3) := by decide +kernel
theorem dX12_isRest_27 : decode cX12_isRest 27 = .ok (.aload_n 0, 1) := by decide +kernel
theorem dX12_isRest_28 : decode cX12_isRest 28 = .ok (.bipush 10, 2) := by decide +kernel
theorem dX12_isRest_30 : decode cX12_isRest 30 = .ok (.invokevirtual 196, 3) := by decide +kernel
theorem dX12_isRest_33 : decode cX12_isRest 33 = .ok (.ifCond .ne 5, 3) := by decide +kernel
theorem dX12_isRest_36 : decode cX12_isRest 36 = .ok (.iconst 0, 1) := by decide +kernel
theorem dX12_isRest_37 : decode cX12_isRest 37 = .ok (.ireturn, 1) := by decide +kernel
theorem dX12_isRest_38 : decode cX12_isRest 38 = .ok (.aload_n 0, 1) := by decide +kernel
theorem dX12_isRest_39 : decode cX12_isRest 39 = .ok (.aload_n 0, 1) := by decide +kernel
theorem dX12_isRest_40 : decode cX12_isRest 40 = .ok (.invokevirtual 199, 3) := by decide +kernel
theorem dX12_isRest_43 : decode cX12_isRest 43 = .ok (.putfield 219, 3) := by decide +kernel
theorem dX12_isRest_46 : decode cX12_isRest 46 = .ok (.aload_n 0, 1) := by decide +kernel
theorem dX12_isRest_47 : decode cX12_isRest 47 = .ok (.invokevirtual 193, 3) := by decide +kernel
theorem dX12_isRest_50 : decode cX12_isRest 50 = .ok (.aload_n 0, 1) := by decide +kernel
theorem dX12_isRest_51 : decode cX12_isRest 51 = .ok (.getfield 149, 3) := by decide +kernel
theorem dX12_isRest_54 : decode cX12_isRest 54 = .ok (.ifCond .ne 7, 3) := by decide +kernel
theorem dX12_isRest_57 : decode cX12_isRest 57 = .ok (.iconst 1, 1) := by decide +kernel
theorem dX12_isRest_58 : decode cX12_isRest 58 = .ok (.goto 4, 3) := by decide +kernel
theorem dX12_isRest_61 : decode cX12_isRest 61 = .ok (.iconst 0, 1) := by decide +kernel
theorem dX12_isRest_62 : decode cX12_isRest 62 = .ok (.ireturn, 1) := by decide +kernel
theorem dX12_isLine_0 : decode cX12_isLine 0 = .ok (.aload_n 0, 1) := by decide +kernel
theorem dX12_isLine_1 : decode cX12_isLine 1 = .ok (.iconst (-1), 1) := by decide +kernel
theorem dX12_isLine_2 : decode cX12_isLine 2 = .ok (.putfield 213, 3) := by decide +kernel
theorem dX12_isLine_5 : decode cX12_isLine 5 = .ok (.aload_n 0, 1) := by decide +kernel
theorem dX12_isLine_6 : decode cX12_isLine 6 = .ok (.iconst (-1), 1) := by decide +kernel
theorem dX12_isLine_7 : decode cX12_isLine 7 = .ok (.putfield 216, 3) := by decide +kernel
theorem dX12_isLine_10 : decode cX12_isLine 10 = .ok (.aload_n 0, 1) := by decide +kernel
theorem dX12_isLine_11 : decode cX12_isLine 11 = .ok (.iconst 0, 1) := by decide +kernel
theorem dX12_isLine_12 : decode cX12_isLine 12 = .ok (.putfield 210, 3) := by decide +kernel
theorem dX12_isLine_15 : decode cX12_isLine 15 = .ok (.aload_n 0, 1) := by decide +kernel
theorem dX12_isLine_16 : decode cX12_isLine 16 = .ok (.lconst 0, 1) := by decide +kernel
theorem dX12_isLine_17 : decode cX12_isLine 17 = .ok (.putfield 203, 3) := by decide +kernel
theorem dX12_isLine_20 : decode cX12_isLine 20 = .ok (.aload_n 0, 1) := by decide +kernel
theorem dX12_isLine_21 : decode cX12_isLine 21 = .ok (.lconst 0, 1) := by decide +kernel
theorem dX12_isLine_22 : decode cX12_isLine 22 = .ok (.putfield 219, 3) := by decide +kernel
theorem dX12_isLine_25 : decode cX12_isLine 25 = .ok (.aload_n 0, 1) := by decide +kernel
theorem dX12_isLine_26 : decode cX12_isLine 26 = .ok (.invokevirtual 193, 3) := by decide +kernel
theorem dX12_isLine_29 : decode cX12_isLine 29 = .ok (.aload_n 0, 1) := by decide +kernel
theorem dX12_isLine_30 : decode cX12_isLine 30 = .ok (.aload_n 0, 1) := by decide +kernel
theorem dX12_isLine_31 : decode cX12_isLine 31 = .ok (.bipush 113, 2) := by decide +kernel
theorem dX12_isLine_33 : decode cX12_isLine 33 = .ok (.invokevirtual 222, 3) := by decide +kernel
theorem dX12_isLine_36 : decode cX12_isLine 36 = .ok (.ifCond .eq 7, 3) := by decide +kernel
theorem dX12_isLine_39 : decode cX12_isLine 39 = .ok (.iconst 0, 1) := by decide +kernel
theorem dX12_isLine_40 : decode cX12_isLine 40 = .ok (.goto 30, 3) := by decide +kernel
theorem dX12_isLine_43 : decode cX12_isLine 43 = .ok (.aload_n 0, 1) := by decide +kernel
theorem dX12_isLine_44 : decode cX12_isLine 44 = .ok (.bipush 114, 2) := by decide +kernel
theorem dX12_isLine_46 : decode cX12_isLine 46 = .ok (.invokevirtual 222, 3) := by decide +kernel
theorem dX12_isLine_49 : decode cX12_isLine 49 = .ok (.ifCond .eq 7, 3) := by decide +kernel
theorem dX12_isLine_52 : decode cX12_isLine 52 = .ok (.iconst 1, 1) := by decide +kernel
theorem dX12_isLine_53 : decode cX12_isLine 53 = .ok (.goto 17, 3) := by decide +kernel
theorem dX12_isLine_56 : decode cX12_isLine 56 = .ok (.aload_n 0, 1) := by decide +kernel
theorem dX12_isLine_57 : decode cX12_isLine 57 = .ok (.bipush 120, 2) := by decide +kernel
theorem dX12_isLine_59 : decode cX12_isLine 59 = .ok (.invokevirtual 222, 3) := by decide +kernel
theorem dX12_isLine_62 : decode cX12_isLine 62 = .ok (.ifCond .eq 7, 3) := by decide +kernel
theorem dX12_isLine_65 : decode cX12_isLine 65 = .ok (.iconst 2, 1) := by decide +kernel
theorem dX12_isLine_66 : decode cX12_isLine 66 = .ok (.goto 4, 3) := by decide +kernel
theorem dX12_isLine_69 : decode cX12_isLine 69 = .ok (.iconst (-1), 1) := by decide +kernel
theorem dX12_isLine_70 : decode cX12_isLine 70 = .ok (.putfield 225, 3) := by decide +kernel
theorem dX12_isLine_73 : decode cX12_isLine 73 = .ok (.aload_n 0, 1) := by decide +kernel
theorem dX12_isLine_74 : decode cX12_isLine 74 = .ok (.getfield 225, 3) := by decide +kernel
theorem dX12_isLine_77 : decode cX12_isLine 77 = .ok (.ifCond .ne 10, 3) := by decide +kernel
theorem dX12_isLine_80 : decode cX12_isLine 80 = .ok (.aload_n 0, 1) := by decide +kernel
theorem dX12_isLine_81 : decode cX12_isLine 81 = .ok (.invokevirtual 228, 3) := by decide +kernel
theorem dX12_isLine_84 : decode cX12_isLine 84 = .ok (.goto 31, 3) := by decide +kernel
theorem dX12_isLine_87 : decode cX12_isLine 87 = .ok (.aload_n 0, 1) := by decide +kernel
theorem dX12_isLine_88 : decode cX12_isLine 88 = .ok (.getfield 225, 3) := by decide +kernel
theorem dX12_isLine_91 : decode cX12_isLine 91 = .ok (.iconst 1, 1) := by decide +kernel
theorem dX12_isLine_92 : decode cX12_isLine 92 = .ok (.if_icmp .ne 10, 3) := by decide +kernel
theorem dX12_isLine_95 : decode cX12_isLine 95 = .ok (.aload_n 0, 1) := by decide +kernel
theorem dX12_isLine_96 : decode cX12_isLine 96 = .ok (.invokevirtual 232, 3) := by decide +kernel
theorem dX12_isLine_99 : decode cX12_isLine 99 = .ok (.goto 16, 3) := by decide +kernel
theorem dX12_isLine_102 : decode cX12_isLine 102 = .ok (.aload_n 0, 1) := by decide +kernel
theorem dX12_isLine_103 : decode cX12_isLine 103 = .ok (.getfield 225, 3) := by decide +kernel
theorem dX12_isLine_106 : decode cX12_isLine 106 = .ok (.iconst 2, 1) := by decide +kernel
theorem dX12_isLine_107 : decode cX12_isLine 107 = .ok (.if_icmp .ne 7, 3) := by decide +kernel
theorem dX12_isLine_110 : decode cX12_isLine 110 = .ok (.iconst 1, 1) := by decide +kernel
theorem dX12_isLine_111 : decode cX12_isLine 111 = .ok (.goto 4, 3) := by decide +kernel
theorem dX12_isLine_114 : decode cX12_isLine 114 = .ok (.iconst 0, 1) := by decide +kernel
theorem dX12_isLine_115 : decode cX12_isLine 115 = .ok (.ireturn, 1) := by decide +kernel
theorem dX12_readLines_0 : decode cX12_readLines 0 = .ok (.iconst 0, 1) := by decide +kernel
theorem dX12_readLines_1 : decode cX12_readLines 1 = .ok (.istore 4, 2) := by decide +kernel
theorem dX12_readLines_3 : decode cX12_readLines 3 = .ok (.iconst 0, 1) := by decide +kernel
theorem dX12_readLines_4 : decode cX12_readLines 4 = .ok (.istore 5, 2) := by decide +kernel
theorem dX12_readLines_6 : decode cX12_readLines 6 = .ok (.iconst 0, 1) := by decide +kernel
theorem dX12_readLines_7 : decode cX12_readLines 7 = .ok (.istore 6, 2) := by decide +kernel
theorem dX12_readLines_9 : decode cX12_readLines 9 = .ok (.aload_n 0, 1) := by decide +kernel
theorem dX12_readLines_10 : decode cX12_readLines 10 = .ok (.iconst 0, 1) := by decide +kernel
theorem dX12_readLines_11 : decode cX12_readLines 11 = .ok (.putfield 235, 3) := by decide +kernel
theorem dX12_readLines_14 : decode cX12_readLines 14 = .ok (.iload 5, 2) := by decide +kernel
theorem dX12_readLines_16 : decode cX12_readLines 16 = .ok (.iload_n 3, 1) := by decide +kernel
theorem dX12_readLines_17 : decode cX12_readLines 17 = .ok (.if_icmp .ge 116, 3) := by decide +kernel
theorem dX12_readLines_20 : decode cX12_readLines 20 = .ok (.iload 5, 2) := by decide +kernel
theorem dX12_readLines_22 : decode cX12_readLines 22 = .ok (.istore 7, 2) := by decide +kernel
theorem dX12_readLines_24 : decode cX12_readLines 24 = .ok (.iload 7, 2) := by decide +kernel
theorem dX12_readLines_26 : decode cX12_readLines 26 = .ok (.iload_n 3, 1) := by decide +kernel
theorem dX12_readLines_27 : decode cX12_readLines 27 = .ok (.if_icmp .ge 21, 3) := by decide +kernel
theorem dX12_readLines_30 : decode cX12_readLines 30 = .ok (.aload_n 0, 1) := by decide +kernel
theorem dX12_readLines_31 : decode cX12_readLines 31 = .ok (.getfield 84, 3) := by decide +kernel
theorem dX12_readLines_34 : decode cX12_readLines 34 = .ok (.iload 7, 2) := by decide +kernel
theorem dX12_readLines_36 : decode cX12_readLines 36 = .ok (.iaload, 1) := by decide +kernel
theorem dX12_readLines_37 : decode cX12_readLines 37 = .ok (.bipush 10, 2) := by decide +kernel
theorem dX12_readLines_39 : decode cX12_readLines 39 = .ok (.if_icmp .eq 9, 3) := by decide +kernel
theorem dX12_readLines_42 : decode cX12_readLines 42 = .ok (.iinc 7 1, 3) := by decide +kernel
theorem dX12_readLines_45 : decode cX12_readLines 45 = .ok (.goto (-21), 3) := by decide +kernel
theorem dX12_readLines_48 : decode cX12_readLines 48 = .ok (.aload_n 0, 1) := by decide +kernel
theorem dX12_readLines_49 : decode cX12_readLines 49 = .ok (.iload 5, 2) := by decide +kernel
theorem dX12_readLines_51 : decode cX12_readLines 51 = .ok (.putfield 140, 3) := by decide +kernel
theorem dX12_readLines_54 : decode cX12_readLines 54 = .ok (.aload_n 0, 1) := by decide +kernel
theorem dX12_readLines_55 : decode cX12_readLines 55 = .ok (.iload 7, 2) := by decide +kernel
theorem dX12_readLines_57 : decode cX12_readLines 57 = .ok (.putfield 143, 3) := by decide +kernel
theorem dX12_readLines_60 : decode cX12_readLines 60 = .ok (.aload_n 0, 1) := by decide +kernel
theorem dX12_readLines_61 : decode cX12_readLines 61 = .ok (.invokevirtual 238, 3) := by decide +kernel
theorem dX12_readLines_64 : decode cX12_readLines 64 = .ok (.ifCond .eq 24, 3) := by decide +kernel
theorem dX12_readLines_67 : decode cX12_readLines 67 = .ok (.iload_n 2, 1) := by decide +kernel
theorem dX12_readLines_68 : decode cX12_readLines 68 = .ok (.ifCond .eq 14, 3) := by decide +kernel
theorem dX12_readLines_71 : decode cX12_readLines 71 = .ok (.aload_n 0, 1) := by decide +kernel
theorem dX12_readLines_72 : decode cX12_readLines 72 = .ok (.bipush 16, 2) := by decide +kernel
theorem dX12_readLines_74 : decode cX12_readLines 74 = .ok (.iload_n 1, 1) := by decide +kernel
theorem dX12_readLines_75 : decode cX12_readLines 75 = .ok (.imul, 1) := by decide +kernel
theorem dX12_readLines_76 : decode cX12_readLines 76 = .ok (.iload 6, 2) := by decide +kernel
theorem dX12_readLines_78 : decode cX12_readLines 78 = .ok (.iadd, 1) := by decide +kernel
theorem dX12_readLines_79 : decode cX12_readLines 79 = .ok (.invokevirtual 241, 3) := by decide +kernel
theorem dX12_readLines_82 : decode cX12_readLines 82 = .ok (.iinc 6 1, 3) := by decide +kernel
theorem dX12_readLines_85 : decode cX12_readLines 85 = .ok (.goto 36, 3) := by decide +kernel
theorem dX12_readLines_88 : decode cX12_readLines 88 = .ok (.aload_n 0, 1) := by decide +kernel
theorem dX12_readLines_89 : decode cX12_readLines 89 = .ok (.getfield 87, 3) := by decide +kernel
theorem dX12_readLines_92 : decode cX12_readLines 92 = .ok (.aload_n 0, 1) := by decide +kernel
theorem dX12_readLines_93 : decode cX12_readLines 93 = .ok (.getfield 235, 3) := by decide +kernel
theorem dX12_readLines_96 : decode cX12_readLines 96 = .ok (.sipush 1000, 3) := by decide +kernel
theorem dX12_readLines_99 : decode cX12_readLines 99 = .ok (.iload 4, 2) := by decide +kernel
theorem dX12_readLines_101 : decode cX12_readLines 101 = .ok (.imul, 1) := by decide +kernel
theorem dX12_readLines_102 : decode cX12_readLines 102 = .ok (.aload_n 0, 1) := by decide +kernel
theorem dX12_readLines_103 : decode cX12_readLines 103 = .ok (.getfield 146, 3) := by decide +kernel
theorem dX12_readLines_106 : decode cX12_readLines 106 = .ok (.iadd, 1) := by decide +kernel
theorem dX12_readLines_107 : decode cX12_readLines 107 = .ok (.iload 5, 2) := by decide +kernel
theorem dX12_readLines_109 : decode cX12_readLines 109 = .ok (.isub, 1) := by decide +kernel
theorem dX12_readLines_110 : decode cX12_readLines 110 = .ok (.iastore, 1) := by decide +kernel
theorem dX12_readLines_111 : decode cX12_readLines 111 = .ok (.aload_n 0, 1) := by decide +kernel
theorem dX12_readLines_112 : decode cX12_readLines 112 = .ok (.dup, 1) := by decide +kernel
theorem dX12_readLines_113 : decode cX12_readLines 113 = .ok (.getfield 235, 3) := by decide +kernel
theorem dX12_readLines_116 : decode cX12_readLines 116 = .ok (.iconst 1, 1) := by decide +kernel
theorem dX12_readLines_117 : decode cX12_readLines 117 = .ok (.iadd, 1) := by decide +kernel
theorem dX12_readLines_118 : decode cX12_readLines 118 = .ok (.putfield 235, 3) := by decide +kernel
theorem dX12_readLines_121 : decode cX12_readLines 121 = .ok (.iinc 4 1, 3) := by decide +kernel
theorem dX12_readLines_124 : decode cX12_readLines 124 = .ok (.iload 7, 2) := by decide +kernel
theorem dX12_readLines_126 : decode cX12_readLines 126 = .ok (.iconst 1, 1) := by decide +kernel
theorem dX12_readLines_127 : decode cX12_readLines 127 = .ok (.iadd, 1) := by decide +kernel
theorem dX12_readLines_128 : decode cX12_readLines 128 = .ok (.istore 5, 2) := by decide +kernel
theorem dX12_readLines_130 : decode cX12_readLines 130 = .ok (.goto (-116), 3) := by decide +kernel
theorem dX12_readLines_133 : decode cX12_readLines 133 = .ok (.iload 6, 2) := by decide +kernel
theorem dX12_readLines_135 : decode cX12_readLines 135 = .ok (.ireturn, 1) := by decide +kernel
theorem dX12_write_0 : decode cX12_write 0 = .ok (.aload_n 0, 1) := by decide +kernel
theorem dX12_write_1 : decode cX12_write 1 = .ok (.getfield 34, 3) := by decide +kernel
theorem dX12_write_4 : decode cX12_write 4 = .ok (.iload_n 1, 1) := by decide +kernel
theorem dX12_write_5 : decode cX12_write 5 = .ok (.aload_n 0, 1) := by decide +kernel
theorem dX12_write_6 : decode cX12_write 6 = .ok (.getfield 225, 3) := by decide +kernel
theorem dX12_write_9 : decode cX12_write 9 = .ok (.iastore, 1) := by decide +kernel
theorem dX12_write_10 : decode cX12_write 10 = .ok (.aload_n 0, 1) := by decide +kernel
theorem dX12_write_11 : decode cX12_write 11 = .ok (.getfield 37, 3) := by decide +kernel
theorem dX12_write_14 : decode cX12_write 14 = .ok (.iload_n 1, 1) := by decide +kernel
theorem dX12_write_15 : decode cX12_write 15 = .ok (.aload_n 0, 1) := by decide +kernel
theorem dX12_write_16 : decode cX12_write 16 = .ok (.getfield 203, 3) := by decide +kernel
theorem dX12_write_19 : decode cX12_write 19 = .ok (.lastore, 1) := by decide +kernel
theorem dX12_write_20 : decode cX12_write 20 = .ok (.aload_n 0, 1) := by decide +kernel
theorem dX12_write_21 : decode cX12_write 21 = .ok (.getfield 41, 3) := by decide +kernel
theorem dX12_write_24 : decode cX12_write 24 = .ok (.iload_n 1, 1) := by decide +kernel
theorem dX12_write_25 : decode cX12_write 25 = .ok (.aload_n 0, 1) := by decide +kernel
theorem dX12_write_26 : decode cX12_write 26 = .ok (.getfield 219, 3) := by decide +kernel
theorem dX12_write_29 : decode cX12_write 29 = .ok (.lastore, 1) := by decide +kernel
theorem dX12_write_30 : decode cX12_write 30 = .ok (.aload_n 0, 1) := by decide +kernel
theorem dX12_write_31 : decode cX12_write 31 = .ok (.getfield 44, 3) := by decide +kernel
theorem dX12_write_34 : decode cX12_write 34 = .ok (.iload_n 1, 1) := by decide +kernel
theorem dX12_write_35 : decode cX12_write 35 = .ok (.aload_n 0, 1) := by decide +kernel
theorem dX12_write_36 : decode cX12_write 36 = .ok (.getfield 210, 3) := by decide +kernel
theorem dX12_write_39 : decode cX12_write 39 = .ok (.iastore, 1) := by decide +kernel
theorem dX12_write_40 : decode cX12_write 40 = .ok (.iconst 0, 1) := by decide +kernel
theorem dX12_write_41 : decode cX12_write 41 = .ok (.istore_n 2, 1) := by decide +kernel
theorem dX12_write_42 : decode cX12_write 42 = .ok (.iload_n 2, 1) := by decide +kernel
theorem dX12_write_43 : decode cX12_write 43 = .ok (.aload_n 0, 1) := by decide +kernel
theorem dX12_write_44 : decode cX12_write 44 = .ok (.getfield 210, 3) := by decide +kernel
theorem dX12_write_47 : decode cX12_write 47 = .ok (.if_icmp .ge 31, 3) := by decide +kernel
theorem dX12_write_50 : decode cX12_write 50 = .ok (.aload_n 0, 1) := by decide +kernel
theorem dX12_write_51 : decode cX12_write 51 = .ok (.getfield 47, 3) := by decide +kernel
theorem dX12_write_54 : decode cX12_write 54 = .ok (.bipush 6, 2) := by decide +kernel
theorem dX12_write_56 : decode cX12_write 56 = .ok (.iload_n 1, 1) := by decide +kernel
theorem dX12_write_57 : decode cX12_write 57 = .ok (.imul, 1) := by decide +kernel
theorem dX12_write_58 : decode cX12_write 58 = .ok (.iload_n 2, 1) := by decide +kernel
theorem dX12_write_59 : decode cX12_write 59 = .ok (.iadd, 1) := by decide +kernel
theorem dX12_write_60 : decode cX12_write 60 = .ok (.aload_n 0, 1) := by decide +kernel
theorem dX12_write_61 : decode cX12_write 61 = .ok (.getfield 84, 3) := by decide +kernel
theorem dX12_write_64 : decode cX12_write 64 = .ok (.aload_n 0, 1) := by decide +kernel
theorem dX12_write_65 : decode cX12_write 65 = .ok (.getfield 207, 3) := by decide +kernel
theorem dX12_write_68 : decode cX12_write 68 = .ok (.iload_n 2, 1) := by decide +kernel
theorem dX12_write_69 : decode cX12_write 69 = .ok (.iadd, 1) := by decide +kernel
theorem dX12_write_70 : decode cX12_write 70 = .ok (.iaload, 1) := by decide +kernel
theorem dX12_write_71 : decode cX12_write 71 = .ok (.iastore, 1) := by decide +kernel
theorem dX12_write_72 : decode cX12_write 72 = .ok (.iinc 2 1, 3) := by decide +kernel
theorem dX12_write_75 : decode cX12_write 75 = .ok (.goto (-33), 3) := by decide +kernel
theorem dX12_write_78 : decode cX12_write 78 = .ok (.aload_n 0, 1) := by decide +kernel
theorem dX12_write_79 : decode cX12_write 79 = .ok (.getfield 50, 3) := by decide +kernel
theorem dX12_write_82 : decode cX12_write 82 = .ok (.iload_n 1, 1) := by decide +kernel
theorem dX12_write_83 : decode cX12_write 83 = .ok (.aload_n 0, 1) := by decide +kernel
theorem dX12_write_84 : decode cX12_write 84 = .ok (.getfield 213, 3) := by decide +kernel
theorem dX12_write_87 : decode cX12_write 87 = .ok (.iastore, 1) := by decide +kernel
theorem dX12_write_88 : decode cX12_write 88 = .ok (.aload_n 0, 1) := by decide +kernel
theorem dX12_write_89 : decode cX12_write 89 = .ok (.getfield 53, 3) := by decide +kernel
theorem dX12_write_92 : decode cX12_write 92 = .ok (.iload_n 1, 1) := by decide +kernel
theorem dX12_write_93 : decode cX12_write 93 = .ok (.aload_n 0, 1) := by decide +kernel
theorem dX12_write_94 : decode cX12_write 94 = .ok (.getfield 216, 3) := by decide +kernel
theorem dX12_write_97 : decode cX12_write 97 = .ok (.iastore, 1) := by decide +kernel
theorem dX12_write_98 : decode cX12_write 98 = .ok (.return_, 1) := by decide +kernel
theorem dX12_log_0 : decode cX12_log 0 = .ok (.aload_n 0, 1) := by decide +kernel
theorem dX12_log_1 : decode cX12_log 1 = .ok (.getfield 137, 3) := by decide +kernel
theorem dX12_log_4 : decode cX12_log 4 = .ok (.istore_n 3, 1) := by decide +kernel
theorem dX12_log_5 : decode cX12_log 5 = .ok (.aload_n 0, 1) := by decide +kernel
theorem dX12_log_6 : decode cX12_log 6 = .ok (.iconst 0, 1) := by decide +kernel
theorem dX12_log_7 : decode cX12_log 7 = .ok (.putfield 137, 3) := by decide +kernel
theorem dX12_log_10 : decode cX12_log 10 = .ok (.aload_n 0, 1) := by decide +kernel
theorem dX12_log_11 : decode cX12_log 11 = .ok (.iconst 0, 1) := by decide +kernel
theorem dX12_log_12 : decode cX12_log 12 = .ok (.putfield 235, 3) := by decide +kernel
theorem dX12_log_15 : decode cX12_log 15 = .ok (.aload_n 0, 1) := by decide +kernel
theorem dX12_log_16 : decode cX12_log 16 = .ok (.iload_n 1, 1) := by decide +kernel
theorem dX12_log_17 : decode cX12_log 17 = .ok (.invokevirtual 190, 3) := by decide +kernel
theorem dX12_log_20 : decode cX12_log 20 = .ok (.ifCond .eq 15, 3) := by decide +kernel
theorem dX12_log_23 : decode cX12_log 23 = .ok (.iload_n 2, 1) := by decide +kernel
theorem dX12_log_24 : decode cX12_log 24 = .ok (.i2l, 1) := by decide +kernel
theorem dX12_log_25 : decode cX12_log 25 = .ok (.lconst 0, 1) := by decide +kernel
theorem dX12_log_26 : decode cX12_log 26 = .ok (.ldc2_w 245, 3) := by decide +kernel
theorem dX12_log_29 : decode cX12_log 29 = .ok (.invokestatic 133, 3) := by decide +kernel
theorem dX12_log_32 : decode cX12_log 32 = .ok (.ifCond .ne 5, 3) := by decide +kernel
theorem dX12_log_35 : decode cX12_log 35 = .ok (.iconst (-1), 1) := by decide +kernel
theorem dX12_log_36 : decode cX12_log 36 = .ok (.ireturn, 1) := by decide +kernel
theorem dX12_log_37 : decode cX12_log 37 = .ok (.aload_n 0, 1) := by decide +kernel
theorem dX12_log_38 : decode cX12_log 38 = .ok (.getfield 7, 3) := by decide +kernel
theorem dX12_log_41 : decode cX12_log 41 = .ok (.iload_n 1, 1) := by decide +kernel
theorem dX12_log_42 : decode cX12_log 42 = .ok (.iaload, 1) := by decide +kernel
theorem dX12_log_43 : decode cX12_log 43 = .ok (.iconst 4, 1) := by decide +kernel
theorem dX12_log_44 : decode cX12_log 44 = .ok (.if_icmp .ne 6, 3) := by decide +kernel
theorem dX12_log_47 : decode cX12_log 47 = .ok (.bipush (-2), 2) := by decide +kernel
theorem dX12_log_49 : decode cX12_log 49 = .ok (.ireturn, 1) := by decide +kernel
theorem dX12_log_50 : decode cX12_log 50 = .ok (.aload_n 0, 1) := by decide +kernel
theorem dX12_log_51 : decode cX12_log 51 = .ok (.iconst 3, 1) := by decide +kernel
theorem dX12_log_52 : decode cX12_log 52 = .ok (.iload_n 1, 1) := by decide +kernel
theorem dX12_log_53 : decode cX12_log 53 = .ok (.imul, 1) := by decide +kernel
theorem dX12_log_54 : decode cX12_log 54 = .ok (.iload_n 2, 1) := by decide +kernel
theorem dX12_log_55 : decode cX12_log 55 = .ok (.iadd, 1) := by decide +kernel
theorem dX12_log_56 : decode cX12_log 56 = .ok (.iconst 0, 1) := by decide +kernel
theorem dX12_log_57 : decode cX12_log 57 = .ok (.iload_n 3, 1) := by decide +kernel
theorem dX12_log_58 : decode cX12_log 58 = .ok (.invokevirtual 247, 3) := by decide +kernel
theorem dX12_log_61 : decode cX12_log 61 = .ok (.istore 4, 2) := by decide +kernel
theorem dX12_log_63 : decode cX12_log 63 = .ok (.iload 4, 2) := by decide +kernel
theorem dX12_log_65 : decode cX12_log 65 = .ok (.bipush 16, 2) := by decide +kernel
theorem dX12_log_67 : decode cX12_log 67 = .ok (.if_icmp .le 11, 3) := by decide +kernel
theorem dX12_log_70 : decode cX12_log 70 = .ok (.aload_n 0, 1) := by decide +kernel
theorem dX12_log_71 : decode cX12_log 71 = .ok (.iconst 0, 1) := by decide +kernel
theorem dX12_log_72 : decode cX12_log 72 = .ok (.putfield 235, 3) := by decide +kernel
theorem dX12_log_75 : decode cX12_log 75 = .ok (.bipush (-3), 2) := by decide +kernel
theorem dX12_log_77 : decode cX12_log 77 = .ok (.ireturn, 1) := by decide +kernel
theorem dX12_log_78 : decode cX12_log 78 = .ok (.aload_n 0, 1) := by decide +kernel
theorem dX12_log_79 : decode cX12_log 79 = .ok (.getfield 31, 3) := by decide +kernel
theorem dX12_log_82 : decode cX12_log 82 = .ok (.iconst 3, 1) := by decide +kernel
theorem dX12_log_83 : decode cX12_log 83 = .ok (.iload_n 1, 1) := by decide +kernel
theorem dX12_log_84 : decode cX12_log 84 = .ok (.imul, 1) := by decide +kernel
theorem dX12_log_85 : decode cX12_log 85 = .ok (.iload_n 2, 1) := by decide +kernel
theorem dX12_log_86 : decode cX12_log 86 = .ok (.iadd, 1) := by decide +kernel
theorem dX12_log_87 : decode cX12_log 87 = .ok (.aload_n 0, 1) := by decide +kernel
theorem dX12_log_88 : decode cX12_log 88 = .ok (.iconst 3, 1) := by decide +kernel
theorem dX12_log_89 : decode cX12_log 89 = .ok (.iload_n 1, 1) := by decide +kernel
theorem dX12_log_90 : decode cX12_log 90 = .ok (.imul, 1) := by decide +kernel
theorem dX12_log_91 : decode cX12_log 91 = .ok (.iload_n 2, 1) := by decide +kernel
theorem dX12_log_92 : decode cX12_log 92 = .ok (.iadd, 1) := by decide +kernel
theorem dX12_log_93 : decode cX12_log 93 = .ok (.iconst 1, 1) := by decide +kernel
theorem dX12_log_94 : decode cX12_log 94 = .ok (.iload_n 3, 1) := by decide +kernel
theorem dX12_log_95 : decode cX12_log 95 = .ok (.invokevirtual 247, 3) := by decide +kernel
theorem dX12_log_98 : decode cX12_log 98 = .ok (.iastore, 1) := by decide +kernel
theorem dX12_log_99 : decode cX12_log 99 = .ok (.aload_n 0, 1) := by decide +kernel
theorem dX12_log_100 : decode cX12_log 100 = .ok (.iconst 0, 1) := by decide +kernel
theorem dX12_log_101 : decode cX12_log 101 = .ok (.putfield 186, 3) := by decide +kernel
theorem dX12_log_104 : decode cX12_log 104 = .ok (.iload 4, 2) := by decide +kernel
theorem dX12_log_106 : decode cX12_log 106 = .ok (.ireturn, 1) := by decide +kernel
theorem dX12_wrong_0 : decode cX12_wrong 0 = .ok (.iload_n 1, 1) := by decide +kernel
theorem dX12_wrong_1 : decode cX12_wrong 1 = .ok (.i2l, 1) := by decide +kernel
theorem dX12_wrong_2 : decode cX12_wrong 2 = .ok (.lconst 0, 1) := by decide +kernel
theorem dX12_wrong_3 : decode cX12_wrong 3 = .ok (.aload_n 0, 1) := by decide +kernel
theorem dX12_wrong_4 : decode cX12_wrong 4 = .ok (.getfield 235, 3) := by decide +kernel
theorem dX12_wrong_7 : decode cX12_wrong 7 = .ok (.iconst 1, 1) := by decide +kernel
theorem dX12_wrong_8 : decode cX12_wrong 8 = .ok (.isub, 1) := by decide +kernel
theorem dX12_wrong_9 : decode cX12_wrong 9 = .ok (.i2l, 1) := by decide +kernel
theorem dX12_wrong_10 : decode cX12_wrong 10 = .ok (.invokestatic 133, 3) := by decide +kernel
theorem dX12_wrong_13 : decode cX12_wrong 13 = .ok (.ifCond .eq 12, 3) := by decide +kernel
theorem dX12_wrong_16 : decode cX12_wrong 16 = .ok (.aload_n 0, 1) := by decide +kernel
theorem dX12_wrong_17 : decode cX12_wrong 17 = .ok (.getfield 87, 3) := by decide +kernel
theorem dX12_wrong_20 : decode cX12_wrong 20 = .ok (.iload_n 1, 1) := by decide +kernel
theorem dX12_wrong_21 : decode cX12_wrong 21 = .ok (.iaload, 1) := by decide +kernel
theorem dX12_wrong_22 : decode cX12_wrong 22 = .ok (.goto 4, 3) := by decide +kernel
theorem dX12_wrong_25 : decode cX12_wrong 25 = .ok (.iconst (-1), 1) := by decide +kernel
theorem dX12_wrong_26 : decode cX12_wrong 26 = .ok (.ireturn, 1) := by decide +kernel
theorem dX12_isWord_0 : decode cX12_isWord 0 = .ok (.aload_n 0, 1) := by decide +kernel
theorem dX12_isWord_1 : decode cX12_isWord 1 = .ok (.getfield 149, 3) := by decide +kernel
theorem dX12_isWord_4 : decode cX12_isWord 4 = .ok (.iload 4, 2) := by decide +kernel
theorem dX12_isWord_6 : decode cX12_isWord 6 = .ok (.ifCond .ne 7, 3) := by decide +kernel
theorem dX12_isWord_9 : decode cX12_isWord 9 = .ok (.iconst 3, 1) := by decide +kernel
theorem dX12_isWord_10 : decode cX12_isWord 10 = .ok (.goto 4, 3) := by decide +kernel
theorem dX12_isWord_13 : decode cX12_isWord 13 = .ok (.iconst 4, 1) := by decide +kernel
theorem dX12_isWord_14 : decode cX12_isWord 14 = .ok (.if_icmp .ne 7, 3) := by decide +kernel
theorem dX12_isWord_17 : decode cX12_isWord 17 = .ok (.iconst 1, 1) := by decide +kernel
theorem dX12_isWord_18 : decode cX12_isWord 18 = .ok (.goto 4, 3) := by decide +kernel
theorem dX12_isWord_21 : decode cX12_isWord 21 = .ok (.iconst 0, 1) := by decide +kernel
theorem dX12_isWord_22 : decode cX12_isWord 22 = .ok (.istore 5, 2) := by decide +kernel
theorem dX12_isWord_24 : decode cX12_isWord 24 = .ok (.iload 5, 2) := by decide +kernel
theorem dX12_isWord_26 : decode cX12_isWord 26 = .ok (.ifCond .eq 71, 3) := by decide +kernel
theorem dX12_isWord_29 : decode cX12_isWord 29 = .ok (.aload_n 0, 1) := by decide +kernel
theorem dX12_isWord_30 : decode cX12_isWord 30 = .ok (.getfield 84, 3) := by decide +kernel
theorem dX12_isWord_33 : decode cX12_isWord 33 = .ok (.aload_n 0, 1) := by decide +kernel
theorem dX12_isWord_34 : decode cX12_isWord 34 = .ok (.getfield 146, 3) := by decide +kernel
theorem dX12_isWord_37 : decode cX12_isWord 37 = .ok (.iaload, 1) := by decide +kernel
theorem dX12_isWord_38 : decode cX12_isWord 38 = .ok (.iload_n 1, 1) := by decide +kernel
theorem dX12_isWord_39 : decode cX12_isWord 39 = .ok (.if_icmp .ne 58, 3) := by decide +kernel
theorem dX12_isWord_42 : decode cX12_isWord 42 = .ok (.aload_n 0, 1) := by decide +kernel
theorem dX12_isWord_43 : decode cX12_isWord 43 = .ok (.getfield 84, 3) := by decide +kernel
theorem dX12_isWord_46 : decode cX12_isWord 46 = .ok (.aload_n 0, 1) := by decide +kernel
theorem dX12_isWord_47 : decode cX12_isWord 47 = .ok (.getfield 146, 3) := by decide +kernel
theorem dX12_isWord_50 : decode cX12_isWord 50 = .ok (.iconst 1, 1) := by decide +kernel
theorem dX12_isWord_51 : decode cX12_isWord 51 = .ok (.iadd, 1) := by decide +kernel
theorem dX12_isWord_52 : decode cX12_isWord 52 = .ok (.iaload, 1) := by decide +kernel
theorem dX12_isWord_53 : decode cX12_isWord 53 = .ok (.iload_n 2, 1) := by decide +kernel
theorem dX12_isWord_54 : decode cX12_isWord 54 = .ok (.if_icmp .ne 43, 3) := by decide +kernel
theorem dX12_isWord_57 : decode cX12_isWord 57 = .ok (.aload_n 0, 1) := by decide +kernel
theorem dX12_isWord_58 : decode cX12_isWord 58 = .ok (.getfield 84, 3) := by decide +kernel
theorem dX12_isWord_61 : decode cX12_isWord 61 = .ok (.aload_n 0, 1) := by decide +kernel
theorem dX12_isWord_62 : decode cX12_isWord 62 = .ok (.getfield 146, 3) := by decide +kernel
theorem dX12_isWord_65 : decode cX12_isWord 65 = .ok (.iconst 2, 1) := by decide +kernel
theorem dX12_isWord_66 : decode cX12_isWord 66 = .ok (.iadd, 1) := by decide +kernel
theorem dX12_isWord_67 : decode cX12_isWord 67 = .ok (.iaload, 1) := by decide +kernel
theorem dX12_isWord_68 : decode cX12_isWord 68 = .ok (.iload_n 3, 1) := by decide +kernel
theorem dX12_isWord_69 : decode cX12_isWord 69 = .ok (.if_icmp .ne 28, 3) := by decide +kernel
theorem dX12_isWord_72 : decode cX12_isWord 72 = .ok (.iload 4, 2) := by decide +kernel
theorem dX12_isWord_74 : decode cX12_isWord 74 = .ok (.ifCond .eq 19, 3) := by decide +kernel
theorem dX12_isWord_77 : decode cX12_isWord 77 = .ok (.aload_n 0, 1) := by decide +kernel
theorem dX12_isWord_78 : decode cX12_isWord 78 = .ok (.getfield 84, 3) := by decide +kernel
theorem dX12_isWord_81 : decode cX12_isWord 81 = .ok (.aload_n 0, 1) := by decide +kernel
theorem dX12_isWord_82 : decode cX12_isWord 82 = .ok (.getfield 146, 3) := by decide +kernel
theorem dX12_isWord_85 : decode cX12_isWord 85 = .ok (.iconst 3, 1) := by decide +kernel
theorem dX12_isWord_86 : decode cX12_isWord 86 = .ok (.iadd, 1) := by decide +kernel
theorem dX12_isWord_87 : decode cX12_isWord 87 = .ok (.iaload, 1) := by decide +kernel
theorem dX12_isWord_88 : decode cX12_isWord 88 = .ok (.iload 4, 2) := by decide +kernel
theorem dX12_isWord_90 : decode cX12_isWord 90 = .ok (.if_icmp .ne 7, 3) := by decide +kernel
theorem dX12_isWord_93 : decode cX12_isWord 93 = .ok (.iconst 1, 1) := by decide +kernel
theorem dX12_isWord_94 : decode cX12_isWord 94 = .ok (.goto 4, 3) := by decide +kernel
theorem dX12_isWord_97 : decode cX12_isWord 97 = .ok (.iconst 0, 1) := by decide +kernel
theorem dX12_isWord_98 : decode cX12_isWord 98 = .ok (.ireturn, 1) := by decide +kernel
theorem dX12_wordHere_0 : decode cX12_wordHere 0 = .ok (.aload_n 0, 1) := by decide +kernel
theorem dX12_wordHere_1 : decode cX12_wordHere 1 = .ok (.iconst 4, 1) := by decide +kernel
theorem dX12_wordHere_2 : decode cX12_wordHere 2 = .ok (.invokevirtual 196, 3) := by decide +kernel
theorem dX12_wordHere_5 : decode cX12_wordHere 5 = .ok (.ifCond .eq 6, 3) := by decide +kernel
theorem dX12_wordHere_8 : decode cX12_wordHere 8 = .ok (.bipush 10, 2) := by decide +kernel
theorem dX12_wordHere_10 : decode cX12_wordHere 10 = .ok (.ireturn, 1) := by decide +kernel
theorem dX12_wordHere_11 : decode cX12_wordHere 11 = .ok (.aload_n 0, 1) := by decide +kernel
theorem dX12_wordHere_12 : decode cX12_wordHere 12 = .ok (.bipush 98, 2) := by decide +kernel
theorem dX12_wordHere_14 : decode cX12_wordHere 14 = .ok (.bipush 97, 2) := by decide +kernel
theorem dX12_wordHere_16 : decode cX12_wordHere 16 = .ok (.bipush 110, 2) := by decide +kernel
theorem dX12_wordHere_18 : decode cX12_wordHere 18 = .ok (.bipush 100, 2) := by decide +kernel
theorem dX12_wordHere_20 : decode cX12_wordHere 20 = .ok (.invokevirtual 251, 3) := by decide +kernel
theorem dX12_wordHere_23 : decode cX12_wordHere 23 = .ok (.ifCond .eq 5, 3) := by decide +kernel
theorem dX12_wordHere_26 : decode cX12_wordHere 26 = .ok (.iconst 0, 1) := by decide +kernel
theorem dX12_wordHere_27 : decode cX12_wordHere 27 = .ok (.ireturn, 1) := by decide +kernel
theorem dX12_wordHere_28 : decode cX12_wordHere 28 = .ok (.aload_n 0, 1) := by decide +kernel
theorem dX12_wordHere_29 : decode cX12_wordHere 29 = .ok (.bipush 107, 2) := by decide +kernel
theorem dX12_wordHere_31 : decode cX12_wordHere 31 = .ok (.bipush 105, 2) := by decide +kernel
theorem dX12_wordHere_33 : decode cX12_wordHere 33 = .ok (.bipush 110, 2) := by decide +kernel
theorem dX12_wordHere_35 : decode cX12_wordHere 35 = .ok (.bipush 100, 2) := by decide +kernel
theorem dX12_wordHere_37 : decode cX12_wordHere 37 = .ok (.invokevirtual 251, 3) := by decide +kernel
theorem dX12_wordHere_40 : decode cX12_wordHere 40 = .ok (.ifCond .eq 5, 3) := by decide +kernel
theorem dX12_wordHere_43 : decode cX12_wordHere 43 = .ok (.iconst 1, 1) := by decide +kernel
theorem dX12_wordHere_44 : decode cX12_wordHere 44 = .ok (.ireturn, 1) := by decide +kernel
theorem dX12_wordHere_45 : decode cX12_wordHere 45 = .ok (.aload_n 0, 1) := by decide +kernel
theorem dX12_wordHere_46 : decode cX12_wordHere 46 = .ok (.bipush 122, 2) := by decide +kernel
theorem dX12_wordHere_48 : decode cX12_wordHere 48 = .ok (.bipush 111, 2) := by decide +kernel
theorem dX12_wordHere_50 : decode cX12_wordHere 50 = .ok (.bipush 110, 2) := by decide +kernel
theorem dX12_wordHere_52 : decode cX12_wordHere 52 = .ok (.bipush 101, 2) := by decide +kernel
theorem dX12_wordHere_54 : decode cX12_wordHere 54 = .ok (.invokevirtual 251, 3) := by decide +kernel
theorem dX12_wordHere_57 : decode cX12_wordHere 57 = .ok (.ifCond .eq 5, 3) := by decide +kernel
theorem dX12_wordHere_60 : decode cX12_wordHere 60 = .ok (.iconst 2, 1) := by decide +kernel
theorem dX12_wordHere_61 : decode cX12_wordHere 61 = .ok (.ireturn, 1) := by decide +kernel
theorem dX12_wordHere_62 : decode cX12_wordHere 62 = .ok (.aload_n 0, 1) := by decide +kernel
theorem dX12_wordHere_63 : decode cX12_wordHere 63 = .ok (.bipush 109, 2) := by decide +kernel
theorem dX12_wordHere_65 : decode cX12_wordHere 65 = .ok (.bipush 105, 2) := by decide +kernel
theorem dX12_wordHere_67 : decode cX12_wordHere 67 = .ok (.bipush 110, 2) := by decide +kernel
theorem dX12_wordHere_69 : decode cX12_wordHere 69 = .ok (.bipush 101, 2) := by decide +kernel
theorem dX12_wordHere_71 : decode cX12_wordHere 71 = .ok (.invokevirtual 251, 3) := by decide +kernel
theorem dX12_wordHere_74 : decode cX12_wordHere 74 = .ok (.ifCond .eq 5, 3) := by decide +kernel
theorem dX12_wordHere_77 : decode cX12_wordHere 77 = .ok (.iconst 3, 1) := by decide +kernel
theorem dX12_wordHere_78 : decode cX12_wordHere 78 = .ok (.ireturn, 1) := by decide +kernel
theorem dX12_wordHere_79 : decode cX12_wordHere 79 = .ok (.aload_n 0, 1) := by decide +kernel
theorem dX12_wordHere_80 : decode cX12_wordHere 80 = .ok (.bipush 102, 2) := by decide +kernel
theorem dX12_wordHere_82 : decode cX12_wordHere 82 = .ok (.bipush 97, 2) := by decide +kernel
theorem dX12_wordHere_84 : decode cX12_wordHere 84 = .ok (.bipush 114, 2) := by decide +kernel
theorem dX12_wordHere_86 : decode cX12_wordHere 86 = .ok (.iconst 0, 1) := by decide +kernel
theorem dX12_wordHere_87 : decode cX12_wordHere 87 = .ok (.invokevirtual 251, 3) := by decide +kernel
theorem dX12_wordHere_90 : decode cX12_wordHere 90 = .ok (.ifCond .eq 5, 3) := by decide +kernel
theorem dX12_wordHere_93 : decode cX12_wordHere 93 = .ok (.iconst 4, 1) := by decide +kernel
theorem dX12_wordHere_94 : decode cX12_wordHere 94 = .ok (.ireturn, 1) := by decide +kernel
theorem dX12_wordHere_95 : decode cX12_wordHere 95 = .ok (.aload_n 0, 1) := by decide +kernel
theorem dX12_wordHere_96 : decode cX12_wordHere 96 = .ok (.bipush 43, 2) := by decide +kernel
theorem dX12_wordHere_98 : decode cX12_wordHere 98 = .ok (.invokevirtual 222, 3) := by decide +kernel
theorem dX12_wordHere_101 : decode cX12_wordHere 101 = .ok (.ifCond .eq 7, 3) := by decide +kernel
theorem dX12_wordHere_104 : decode cX12_wordHere 104 = .ok (.iconst 5, 1) := by decide +kernel
theorem dX12_wordHere_105 : decode cX12_wordHere 105 = .ok (.goto 60, 3) := by decide +kernel
theorem dX12_wordHere_108 : decode cX12_wordHere 108 = .ok (.aload_n 0, 1) := by decide +kernel
theorem dX12_wordHere_109 : decode cX12_wordHere 109 = .ok (.bipush 45, 2) := by decide +kernel
theorem dX12_wordHere_111 : decode cX12_wordHere 111 = .ok (.invokevirtual 222, 3) := by decide +kernel
theorem dX12_wordHere_114 : decode cX12_wordHere 114 = .ok (.ifCond .eq 8, 3) := by decide +kernel
theorem dX12_wordHere_117 : decode cX12_wordHere 117 = .ok (.bipush 6, 2) := by decide +kernel
theorem dX12_wordHere_119 : decode cX12_wordHere 119 = .ok (.goto 46, 3) := by decide +kernel
theorem dX12_wordHere_122 : decode cX12_wordHere 122 = .ok (.aload_n 0, 1) := by decide +kernel
theorem dX12_wordHere_123 : decode cX12_wordHere 123 = .ok (.bipush 42, 2) := by decide +kernel
theorem dX12_wordHere_125 : decode cX12_wordHere 125 = .ok (.invokevirtual 222, 3) := by decide +kernel
theorem dX12_wordHere_128 : decode cX12_wordHere 128 = .ok (.ifCond .eq 8, 3) := by decide +kernel
theorem dX12_wordHere_131 : decode cX12_wordHere 131 = .ok (.bipush 7, 2) := by decide +kernel
theorem dX12_wordHere_133 : decode cX12_wordHere 133 = .ok (.goto 32, 3) := by decide +kernel
theorem dX12_wordHere_136 : decode cX12_wordHere 136 = .ok (.aload_n 0, 1) := by decide +kernel
theorem dX12_wordHere_137 : decode cX12_wordHere 137 = .ok (.bipush 47, 2) := by decide +kernel
theorem dX12_wordHere_139 : decode cX12_wordHere 139 = .ok (.invokevirtual 222, 3) := by decide +kernel
theorem dX12_wordHere_142 : decode cX12_wordHere 142 = .ok (.ifCond .eq 8, 3) := by decide +kernel
theorem dX12_wordHere_145 : decode cX12_wordHere 145 = .ok (.bipush 8, 2) := by decide +kernel
theorem dX12_wordHere_147 : decode cX12_wordHere 147 = .ok (.goto 18, 3) := by decide +kernel
theorem dX12_wordHere_150 : decode cX12_wordHere 150 = .ok (.aload_n 0, 1) := by decide +kernel
theorem dX12_wordHere_151 : decode cX12_wordHere 151 = .ok (.bipush 63, 2) := by decide +kernel
theorem dX12_wordHere_153 : decode cX12_wordHere 153 = .ok (.invokevirtual 222, 3) := by decide +kernel
theorem dX12_wordHere_156 : decode cX12_wordHere 156 = .ok (.ifCond .eq 8, 3) := by decide +kernel
theorem dX12_wordHere_159 : decode cX12_wordHere 159 = .ok (.bipush 9, 2) := by decide +kernel
theorem dX12_wordHere_161 : decode cX12_wordHere 161 = .ok (.goto 4, 3) := by decide +kernel
theorem dX12_wordHere_164 : decode cX12_wordHere 164 = .ok (.iconst (-1), 1) := by decide +kernel
theorem dX12_wordHere_165 : decode cX12_wordHere 165 = .ok (.ireturn, 1) := by decide +kernel
theorem dX12_isOperator_0 : decode cX12_isOperator 0 = .ok (.iload_n 0, 1) := by decide +kernel
theorem dX12_isOperator_1 : decode cX12_isOperator 1 = .ok (.i2l, 1) := by decide +kernel
theorem dX12_isOperator_2 : decode cX12_isOperator 2 = .ok (.ldc2_w 255, 3) := by decide +kernel
theorem dX12_isOperator_5 : decode cX12_isOperator 5 = .ok (.ldc2_w 257, 3) := by decide +kernel
theorem dX12_isOperator_8 : decode cX12_isOperator 8 = .ok (.invokestatic 133, 3) := by decide +kernel
theorem dX12_isOperator_11 : decode cX12_isOperator 11 = .ok (.ireturn, 1) := by decide +kernel
theorem dX12_rule_0 : decode cX12_rule 0 = .ok (.aload_n 0, 1) := by decide +kernel
theorem dX12_rule_1 : decode cX12_rule 1 = .ok (.iconst 0, 1) := by decide +kernel
theorem dX12_rule_2 : decode cX12_rule 2 = .ok (.putfield 140, 3) := by decide +kernel
theorem dX12_rule_5 : decode cX12_rule 5 = .ok (.aload_n 0, 1) := by decide +kernel
theorem dX12_rule_6 : decode cX12_rule 6 = .ok (.aload_n 0, 1) := by decide +kernel
theorem dX12_rule_7 : decode cX12_rule 7 = .ok (.getfield 137, 3) := by decide +kernel
theorem dX12_rule_10 : decode cX12_rule 10 = .ok (.putfield 143, 3) := by decide +kernel
theorem dX12_rule_13 : decode cX12_rule 13 = .ok (.aload_n 0, 1) := by decide +kernel
theorem dX12_rule_14 : decode cX12_rule 14 = .ok (.iconst 0, 1) := by decide +kernel
theorem dX12_rule_15 : decode cX12_rule 15 = .ok (.putfield 137, 3) := by decide +kernel
theorem dX12_rule_18 : decode cX12_rule 18 = .ok (.iconst 0, 1) := by decide +kernel
theorem dX12_rule_19 : decode cX12_rule 19 = .ok (.istore_n 1, 1) := by decide +kernel
theorem dX12_rule_20 : decode cX12_rule 20 = .ok (.iconst 0, 1) := by decide +kernel
theorem dX12_rule_21 : decode cX12_rule 21 = .ok (.istore_n 2, 1) := by decide +kernel
theorem dX12_rule_22 : decode cX12_rule 22 = .ok (.aload_n 0, 1) := by decide +kernel
theorem dX12_rule_23 : decode cX12_rule 23 = .ok (.getfield 99, 3) := by decide +kernel
theorem dX12_rule_26 : decode cX12_rule 26 = .ok (.iconst 0, 1) := by decide +kernel
theorem dX12_rule_27 : decode cX12_rule 27 = .ok (.iconst 1, 1) := by decide +kernel
theorem dX12_rule_28 : decode cX12_rule 28 = .ok (.iastore, 1) := by decide +kernel
theorem dX12_rule_29 : decode cX12_rule 29 = .ok (.aload_n 0, 1) := by decide +kernel
theorem dX12_rule_30 : decode cX12_rule 30 = .ok (.getfield 99, 3) := by decide +kernel
theorem dX12_rule_33 : decode cX12_rule 33 = .ok (.iconst 0, 1) := by decide +kernel
theorem dX12_rule_34 : decode cX12_rule 34 = .ok (.iaload, 1) := by decide +kernel
theorem dX12_rule_35 : decode cX12_rule 35 = .ok (.ifCond .le 145, 3) := by decide +kernel
theorem dX12_rule_38 : decode cX12_rule 38 = .ok (.aload_n 0, 1) := by decide +kernel
theorem dX12_rule_39 : decode cX12_rule 39 = .ok (.invokevirtual 193, 3) := by decide +kernel
theorem dX12_rule_42 : decode cX12_rule 42 = .ok (.aload_n 0, 1) := by decide +kernel
theorem dX12_rule_43 : decode cX12_rule 43 = .ok (.invokevirtual 259, 3) := by decide +kernel
theorem dX12_rule_46 : decode cX12_rule 46 = .ok (.istore_n 3, 1) := by decide +kernel
theorem dX12_rule_47 : decode cX12_rule 47 = .ok (.iload_n 3, 1) := by decide +kernel
theorem dX12_rule_48 : decode cX12_rule 48 = .ok (.ifCond .lt 22, 3) := by decide +kernel
theorem dX12_rule_51 : decode cX12_rule 51 = .ok (.iload_n 1, 1) := by decide +kernel
theorem dX12_rule_52 : decode cX12_rule 52 = .ok (.bipush 30, 2) := by decide +kernel
theorem dX12_rule_54 : decode cX12_rule 54 = .ok (.if_icmp .eq 16, 3) := by decide +kernel
theorem dX12_rule_57 : decode cX12_rule 57 = .ok (.iload_n 3, 1) := by decide +kernel
theorem dX12_rule_58 : decode cX12_rule 58 = .ok (.invokestatic 263, 3) := by decide +kernel
theorem dX12_rule_61 : decode cX12_rule 61 = .ok (.ifCond .eq 16, 3) := by decide +kernel
theorem dX12_rule_64 : decode cX12_rule 64 = .ok (.iload_n 2, 1) := by decide +kernel
theorem dX12_rule_65 : decode cX12_rule 65 = .ok (.bipush 8, 2) := by decide +kernel
theorem dX12_rule_67 : decode cX12_rule 67 = .ok (.if_icmp .ne 10, 3) := by decide +kernel
theorem dX12_rule_70 : decode cX12_rule 70 = .ok (.iconst (-1), 1) := by decide +kernel
theorem dX12_rule_71 : decode cX12_rule 71 = .ok (.aload_n 0, 1) := by decide +kernel
theorem dX12_rule_72 : decode cX12_rule 72 = .ok (.getfield 146, 3) := by decide +kernel
theorem dX12_rule_75 : decode cX12_rule 75 = .ok (.isub, 1) := by decide +kernel
theorem dX12_rule_76 : decode cX12_rule 76 = .ok (.ireturn, 1) := by decide +kernel
theorem dX12_rule_77 : decode cX12_rule 77 = .ok (.aload_n 0, 1) := by decide +kernel
theorem dX12_rule_78 : decode cX12_rule 78 = .ok (.getfield 78, 3) := by decide +kernel
theorem dX12_rule_81 : decode cX12_rule 81 = .ok (.iload_n 1, 1) := by decide +kernel
theorem dX12_rule_82 : decode cX12_rule 82 = .ok (.iload_n 3, 1) := by decide +kernel
theorem dX12_rule_83 : decode cX12_rule 83 = .ok (.iastore, 1) := by decide +kernel
theorem dX12_rule_84 : decode cX12_rule 84 = .ok (.aload_n 0, 1) := by decide +kernel
theorem dX12_rule_85 : decode cX12_rule 85 = .ok (.getfield 81, 3) := by decide +kernel
theorem dX12_rule_88 : decode cX12_rule 88 = .ok (.iload_n 1, 1) := by decide +kernel
theorem dX12_rule_89 : decode cX12_rule 89 = .ok (.iload_n 3, 1) := by decide +kernel
theorem dX12_rule_90 : decode cX12_rule 90 = .ok (.bipush 10, 2) := by decide +kernel
theorem dX12_rule_92 : decode cX12_rule 92 = .ok (.if_icmp .ne 11, 3) := by decide +kernel
theorem dX12_rule_95 : decode cX12_rule 95 = .ok (.aload_n 0, 1) := by decide +kernel
theorem dX12_rule_96 : decode cX12_rule 96 = .ok (.invokevirtual 199, 3) := by decide +kernel
theorem dX12_rule_99 : decode cX12_rule 99 = .ok (.l2i, 1) := by decide +kernel
theorem dX12_rule_100 : decode cX12_rule 100 = .ok (.goto 4, 3) := by decide +kernel
theorem dX12_rule_103 : decode cX12_rule 103 = .ok (.iconst 0, 1) := by decide +kernel
theorem dX12_rule_104 : decode cX12_rule 104 = .ok (.iastore, 1) := by decide +kernel
theorem dX12_rule_105 : decode cX12_rule 105 = .ok (.iinc 1 1, 3) := by decide +kernel
theorem dX12_rule_108 : decode cX12_rule 108 = .ok (.iload_n 3, 1) := by decide +kernel
theorem dX12_rule_109 : decode cX12_rule 109 = .ok (.invokestatic 263, 3) := by decide +kernel
theorem dX12_rule_112 : decode cX12_rule 112 = .ok (.ifCond .eq 26, 3) := by decide +kernel
theorem dX12_rule_115 : decode cX12_rule 115 = .ok (.iinc 2 1, 3) := by decide +kernel
theorem dX12_rule_118 : decode cX12_rule 118 = .ok (.aload_n 0, 1) := by decide +kernel
theorem dX12_rule_119 : decode cX12_rule 119 = .ok (.getfield 99, 3) := by decide +kernel
theorem dX12_rule_122 : decode cX12_rule 122 = .ok (.iload_n 2, 1) := by decide +kernel
theorem dX12_rule_123 : decode cX12_rule 123 = .ok (.iload_n 3, 1) := by decide +kernel
theorem dX12_rule_124 : decode cX12_rule 124 = .ok (.bipush 9, 2) := by decide +kernel
theorem dX12_rule_126 : decode cX12_rule 126 = .ok (.if_icmp .ne 7, 3) := by decide +kernel
theorem dX12_rule_129 : decode cX12_rule 129 = .ok (.iconst 3, 1) := by decide +kernel
theorem dX12_rule_130 : decode cX12_rule 130 = .ok (.goto 4, 3) := by decide +kernel
theorem dX12_rule_133 : decode cX12_rule 133 = .ok (.iconst 2, 1) := by decide +kernel
theorem dX12_rule_134 : decode cX12_rule 134 = .ok (.iastore, 1) := by decide +kernel
theorem dX12_rule_135 : decode cX12_rule 135 = .ok (.goto 42, 3) := by decide +kernel
theorem dX12_rule_138 : decode cX12_rule 138 = .ok (.aload_n 0, 1) := by decide +kernel
theorem dX12_rule_139 : decode cX12_rule 139 = .ok (.getfield 99, 3) := by decide +kernel
theorem dX12_rule_142 : decode cX12_rule 142 = .ok (.iload_n 2, 1) := by decide +kernel
theorem dX12_rule_143 : decode cX12_rule 143 = .ok (.dup2, 1) := by decide +kernel
theorem dX12_rule_144 : decode cX12_rule 144 = .ok (.iaload, 1) := by decide +kernel
theorem dX12_rule_145 : decode cX12_rule 145 = .ok (.iconst 1, 1) := by decide +kernel
theorem dX12_rule_146 : decode cX12_rule 146 = .ok (.isub, 1) := by decide +kernel
theorem dX12_rule_147 : decode cX12_rule 147 = .ok (.iastore, 1) := by decide +kernel
theorem dX12_rule_148 : decode cX12_rule 148 = .ok (.iload_n 2, 1) := by decide +kernel
theorem dX12_rule_149 : decode cX12_rule 149 = .ok (.ifCond .le 28, 3) := by decide +kernel
theorem dX12_rule_152 : decode cX12_rule 152 = .ok (.aload_n 0, 1) := by decide +kernel
theorem dX12_rule_153 : decode cX12_rule 153 = .ok (.getfield 99, 3) := by decide +kernel
theorem dX12_rule_156 : decode cX12_rule 156 = .ok (.iload_n 2, 1) := by decide +kernel
theorem dX12_rule_157 : decode cX12_rule 157 = .ok (.iaload, 1) := by decide +kernel
theorem dX12_rule_158 : decode cX12_rule 158 = .ok (.ifCond .ne 19, 3) := by decide +kernel
theorem dX12_rule_161 : decode cX12_rule 161 = .ok (.iinc 2 (-1), 3) := by decide +kernel
theorem dX12_rule_164 : decode cX12_rule 164 = .ok (.aload_n 0, 1) := by decide +kernel
theorem dX12_rule_165 : decode cX12_rule 165 = .ok (.getfield 99, 3) := by decide +kernel
theorem dX12_rule_168 : decode cX12_rule 168 = .ok (.iload_n 2, 1) := by decide +kernel
theorem dX12_rule_169 : decode cX12_rule 169 = .ok (.dup2, 1) := by decide +kernel
theorem dX12_rule_170 : decode cX12_rule 170 = .ok (.iaload, 1) := by decide +kernel
theorem dX12_rule_171 : decode cX12_rule 171 = .ok (.iconst 1, 1) := by decide +kernel
theorem dX12_rule_172 : decode cX12_rule 172 = .ok (.isub, 1) := by decide +kernel
theorem dX12_rule_173 : decode cX12_rule 173 = .ok (.iastore, 1) := by decide +kernel
theorem dX12_rule_174 : decode cX12_rule 174 = .ok (.goto (-26), 3) := by decide +kernel
theorem dX12_rule_177 : decode cX12_rule 177 = .ok (.goto (-148), 3) := by decide +kernel
theorem dX12_rule_180 : decode cX12_rule 180 = .ok (.aload_n 0, 1) := by decide +kernel
theorem dX12_rule_181 : decode cX12_rule 181 = .ok (.invokevirtual 193, 3) := by decide +kernel
theorem dX12_rule_184 : decode cX12_rule 184 = .ok (.aload_n 0, 1) := by decide +kernel
theorem dX12_rule_185 : decode cX12_rule 185 = .ok (.getfield 149, 3) := by decide +kernel
theorem dX12_rule_188 : decode cX12_rule 188 = .ok (.ifCond .le 10, 3) := by decide +kernel
theorem dX12_rule_191 : decode cX12_rule 191 = .ok (.iconst (-1), 1) := by decide +kernel
theorem dX12_rule_192 : decode cX12_rule 192 = .ok (.aload_n 0, 1) := by decide +kernel
theorem dX12_rule_193 : decode cX12_rule 193 = .ok (.getfield 146, 3) := by decide +kernel
theorem dX12_rule_196 : decode cX12_rule 196 = .ok (.isub, 1) := by decide +kernel
theorem dX12_rule_197 : decode cX12_rule 197 = .ok (.ireturn, 1) := by decide +kernel
theorem dX12_rule_198 : decode cX12_rule 198 = .ok (.aload_n 0, 1) := by decide +kernel
theorem dX12_rule_199 : decode cX12_rule 199 = .ok (.iload_n 1, 1) := by decide +kernel
theorem dX12_rule_200 : decode cX12_rule 200 = .ok (.putfield 69, 3) := by decide +kernel
theorem dX12_rule_203 : decode cX12_rule 203 = .ok (.iconst 0, 1) := by decide +kernel
theorem dX12_rule_204 : decode cX12_rule 204 = .ok (.istore_n 3, 1) := by decide +kernel
theorem dX12_rule_205 : decode cX12_rule 205 = .ok (.iload_n 3, 1) := by decide +kernel
theorem dX12_rule_206 : decode cX12_rule 206 = .ok (.iload_n 1, 1) := by decide +kernel
theorem dX12_rule_207 : decode cX12_rule 207 = .ok (.if_icmp .ge 33, 3) := by decide +kernel
theorem dX12_rule_210 : decode cX12_rule 210 = .ok (.aload_n 0, 1) := by decide +kernel
theorem dX12_rule_211 : decode cX12_rule 211 = .ok (.getfield 72, 3) := by decide +kernel
theorem dX12_rule_214 : decode cX12_rule 214 = .ok (.iload_n 3, 1) := by decide +kernel
theorem dX12_rule_215 : decode cX12_rule 215 = .ok (.aload_n 0, 1) := by decide +kernel
theorem dX12_rule_216 : decode cX12_rule 216 = .ok (.getfield 78, 3) := by decide +kernel
theorem dX12_rule_219 : decode cX12_rule 219 = .ok (.iload_n 3, 1) := by decide +kernel
theorem dX12_rule_220 : decode cX12_rule 220 = .ok (.iaload, 1) := by decide +kernel
theorem dX12_rule_221 : decode cX12_rule 221 = .ok (.iastore, 1) := by decide +kernel
theorem dX12_rule_222 : decode cX12_rule 222 = .ok (.aload_n 0, 1) := by decide +kernel
theorem dX12_rule_223 : decode cX12_rule 223 = .ok (.getfield 75, 3) := by decide +kernel
theorem dX12_rule_226 : decode cX12_rule 226 = .ok (.iload_n 3, 1) := by decide +kernel
theorem dX12_rule_227 : decode cX12_rule 227 = .ok (.aload_n 0, 1) := by decide +kernel
theorem dX12_rule_228 : decode cX12_rule 228 = .ok (.getfield 81, 3) := by decide +kernel
theorem dX12_rule_231 : decode cX12_rule 231 = .ok (.iload_n 3, 1) := by decide +kernel
theorem dX12_rule_232 : decode cX12_rule 232 = .ok (.iaload, 1) := by decide +kernel
theorem dX12_rule_233 : decode cX12_rule 233 = .ok (.iastore, 1) := by decide +kernel
theorem dX12_rule_234 : decode cX12_rule 234 = .ok (.iinc 3 1, 3) := by decide +kernel
theorem dX12_rule_237 : decode cX12_rule 237 = .ok (.goto (-32), 3) := by decide +kernel
theorem dX12_rule_240 : decode cX12_rule 240 = .ok (.iload_n 1, 1) := by decide +kernel
theorem dX12_rule_241 : decode cX12_rule 241 = .ok (.ireturn, 1) := by decide +kernel
theorem dX12_distance_0 : decode cX12_distance 0 = .ok (.aload_n 0, 1) := by decide +kernel
theorem dX12_distance_1 : decode cX12_distance 1 = .ok (.getfield 16, 3) := by decide +kernel
theorem dX12_distance_4 : decode cX12_distance 4 = .ok (.aload_n 0, 1) := by decide +kernel
theorem dX12_distance_5 : decode cX12_distance 5 = .ok (.getfield 266, 3) := by decide +kernel
theorem dX12_distance_8 : decode cX12_distance 8 = .ok (.iaload, 1) := by decide +kernel
theorem dX12_distance_9 : decode cX12_distance 9 = .ok (.aload_n 0, 1) := by decide +kernel
theorem dX12_distance_10 : decode cX12_distance 10 = .ok (.getfield 16, 3) := by decide +kernel
theorem dX12_distance_13 : decode cX12_distance 13 = .ok (.aload_n 0, 1) := by decide +kernel
theorem dX12_distance_14 : decode cX12_distance 14 = .ok (.getfield 269, 3) := by decide +kernel
theorem dX12_distance_17 : decode cX12_distance 17 = .ok (.iaload, 1) := by decide +kernel
theorem dX12_distance_18 : decode cX12_distance 18 = .ok (.isub, 1) := by decide +kernel
theorem dX12_distance_19 : decode cX12_distance 19 = .ok (.istore_n 1, 1) := by decide +kernel
theorem dX12_distance_20 : decode cX12_distance 20 = .ok (.aload_n 0, 1) := by decide +kernel
theorem dX12_distance_21 : decode cX12_distance 21 = .ok (.getfield 19, 3) := by decide +kernel
theorem dX12_distance_24 : decode cX12_distance 24 = .ok (.aload_n 0, 1) := by decide +kernel
theorem dX12_distance_25 : decode cX12_distance 25 = .ok (.getfield 266, 3) := by decide +kernel
theorem dX12_distance_28 : decode cX12_distance 28 = .ok (.iaload, 1) := by decide +kernel
theorem dX12_distance_29 : decode cX12_distance 29 = .ok (.aload_n 0, 1) := by decide +kernel
theorem dX12_distance_30 : decode cX12_distance 30 = .ok (.getfield 19, 3) := by decide +kernel
theorem dX12_distance_33 : decode cX12_distance 33 = .ok (.aload_n 0, 1) := by decide +kernel
theorem dX12_distance_34 : decode cX12_distance 34 = .ok (.getfield 269, 3) := by decide +kernel
theorem dX12_distance_37 : decode cX12_distance 37 = .ok (.iaload, 1) := by decide +kernel
theorem dX12_distance_38 : decode cX12_distance 38 = .ok (.isub, 1) := by decide +kernel
theorem dX12_distance_39 : decode cX12_distance 39 = .ok (.istore_n 2, 1) := by decide +kernel
theorem dX12_distance_40 : decode cX12_distance 40 = .ok (.iconst 0, 1) := by decide +kernel
theorem dX12_distance_41 : decode cX12_distance 41 = .ok (.istore_n 3, 1) := by decide +kernel
theorem dX12_distance_42 : decode cX12_distance 42 = .ok (.iload_n 3, 1) := by decide +kernel
theorem dX12_distance_43 : decode cX12_distance 43 = .ok (.iconst 1, 1) := by decide +kernel
theorem dX12_distance_44 : decode cX12_distance 44 = .ok (.iadd, 1) := by decide +kernel
theorem dX12_distance_45 : decode cX12_distance 45 = .ok (.iload_n 3, 1) := by decide +kernel
theorem dX12_distance_46 : decode cX12_distance 46 = .ok (.iconst 1, 1) := by decide +kernel
theorem dX12_distance_47 : decode cX12_distance 47 = .ok (.iadd, 1) := by decide +kernel
theorem dX12_distance_48 : decode cX12_distance 48 = .ok (.imul, 1) := by decide +kernel
theorem dX12_distance_49 : decode cX12_distance 49 = .ok (.iload_n 1, 1) := by decide +kernel
theorem dX12_distance_50 : decode cX12_distance 50 = .ok (.iload_n 1, 1) := by decide +kernel
theorem dX12_distance_51 : decode cX12_distance 51 = .ok (.imul, 1) := by decide +kernel
theorem dX12_distance_52 : decode cX12_distance 52 = .ok (.iload_n 2, 1) := by decide +kernel
theorem dX12_distance_53 : decode cX12_distance 53 = .ok (.iload_n 2, 1) := by decide +kernel
theorem dX12_distance_54 : decode cX12_distance 54 = .ok (.imul, 1) := by decide +kernel
theorem dX12_distance_55 : decode cX12_distance 55 = .ok (.iadd, 1) := by decide +kernel
theorem dX12_distance_56 : decode cX12_distance 56 = .ok (.if_icmp .gt 9, 3) := by decide +kernel
theorem dX12_distance_59 : decode cX12_distance 59 = .ok (.iinc 3 1, 3) := by decide +kernel
theorem dX12_distance_62 : decode cX12_distance 62 = .ok (.goto (-20), 3) := by decide +kernel
theorem dX12_distance_65 : decode cX12_distance 65 = .ok (.iload_n 3, 1) := by decide +kernel
theorem dX12_distance_66 : decode cX12_distance 66 = .ok (.ireturn, 1) := by decide +kernel
theorem dX12_worked_0 : decode cX12_worked 0 = .ok (.aload_n 0, 1) := by decide +kernel
theorem dX12_worked_1 : decode cX12_worked 1 = .ok (.getfield 272, 3) := by decide +kernel
theorem dX12_worked_4 : decode cX12_worked 4 = .ok (.istore_n 2, 1) := by decide +kernel
theorem dX12_worked_5 : decode cX12_worked 5 = .ok (.aload_n 0, 1) := by decide +kernel
theorem dX12_worked_6 : decode cX12_worked 6 = .ok (.dup, 1) := by decide +kernel
theorem dX12_worked_7 : decode cX12_worked 7 = .ok (.getfield 272, 3) := by decide +kernel
theorem dX12_worked_10 : decode cX12_worked 10 = .ok (.iconst 1, 1) := by decide +kernel
theorem dX12_worked_11 : decode cX12_worked 11 = .ok (.iadd, 1) := by decide +kernel
theorem dX12_worked_12 : decode cX12_worked 12 = .ok (.putfield 272, 3) := by decide +kernel
theorem dX12_worked_15 : decode cX12_worked 15 = .ok (.aload_n 0, 1) := by decide +kernel
theorem dX12_worked_16 : decode cX12_worked 16 = .ok (.getfield 72, 3) := by decide +kernel
theorem dX12_worked_19 : decode cX12_worked 19 = .ok (.iload_n 2, 1) := by decide +kernel
theorem dX12_worked_20 : decode cX12_worked 20 = .ok (.iaload, 1) := by decide +kernel
theorem dX12_worked_21 : decode cX12_worked 21 = .ok (.tableswitch 178 0 10 #[66, 71, 81, 91, 101, 178, 178, 178, 178, 114, 59], 59) := by decide +kernel
theorem dX12_worked_80 : decode cX12_worked 80 = .ok (.aload_n 0, 1) := by decide +kernel
theorem dX12_worked_81 : decode cX12_worked 81 = .ok (.getfield 75, 3) := by decide +kernel
theorem dX12_worked_84 : decode cX12_worked 84 = .ok (.iload_n 2, 1) := by decide +kernel
theorem dX12_worked_85 : decode cX12_worked 85 = .ok (.iaload, 1) := by decide +kernel
theorem dX12_worked_86 : decode cX12_worked 86 = .ok (.ireturn, 1) := by decide +kernel
theorem dX12_worked_87 : decode cX12_worked 87 = .ok (.aload_n 0, 1) := by decide +kernel
theorem dX12_worked_88 : decode cX12_worked 88 = .ok (.getfield 275, 3) := by decide +kernel
theorem dX12_worked_91 : decode cX12_worked 91 = .ok (.ireturn, 1) := by decide +kernel
theorem dX12_worked_92 : decode cX12_worked 92 = .ok (.aload_n 0, 1) := by decide +kernel
theorem dX12_worked_93 : decode cX12_worked 93 = .ok (.getfield 7, 3) := by decide +kernel
theorem dX12_worked_96 : decode cX12_worked 96 = .ok (.aload_n 0, 1) := by decide +kernel
theorem dX12_worked_97 : decode cX12_worked 97 = .ok (.getfield 269, 3) := by decide +kernel
theorem dX12_worked_100 : decode cX12_worked 100 = .ok (.iaload, 1) := by decide +kernel
theorem dX12_worked_101 : decode cX12_worked 101 = .ok (.ireturn, 1) := by decide +kernel
theorem dX12_worked_102 : decode cX12_worked 102 = .ok (.aload_n 0, 1) := by decide +kernel
theorem dX12_worked_103 : decode cX12_worked 103 = .ok (.getfield 13, 3) := by decide +kernel
theorem dX12_worked_106 : decode cX12_worked 106 = .ok (.aload_n 0, 1) := by decide +kernel
theorem dX12_worked_107 : decode cX12_worked 107 = .ok (.getfield 269, 3) := by decide +kernel
theorem dX12_worked_110 : decode cX12_worked 110 = .ok (.iaload, 1) := by decide +kernel
theorem dX12_worked_111 : decode cX12_worked 111 = .ok (.ireturn, 1) := by decide +kernel
theorem dX12_worked_112 : decode cX12_worked 112 = .ok (.aload_n 0, 1) := by decide +kernel
theorem dX12_worked_113 : decode cX12_worked 113 = .ok (.getfield 13, 3) := by decide +kernel
theorem dX12_worked_116 : decode cX12_worked 116 = .ok (.aload_n 0, 1) := by decide +kernel
theorem dX12_worked_117 : decode cX12_worked 117 = .ok (.getfield 266, 3) := by decide +kernel
theorem dX12_worked_120 : decode cX12_worked 120 = .ok (.iaload, 1) := by decide +kernel
theorem dX12_worked_121 : decode cX12_worked 121 = .ok (.ireturn, 1) := by decide +kernel
theorem dX12_worked_122 : decode cX12_worked 122 = .ok (.iload_n 1, 1) := by decide +kernel
theorem dX12_worked_123 : decode cX12_worked 123 = .ok (.ifCond .eq 10, 3) := by decide +kernel
theorem dX12_worked_126 : decode cX12_worked 126 = .ok (.aload_n 0, 1) := by decide +kernel
theorem dX12_worked_127 : decode cX12_worked 127 = .ok (.invokevirtual 278, 3) := by decide +kernel
theorem dX12_worked_130 : decode cX12_worked 130 = .ok (.goto 4, 3) := by decide +kernel
theorem dX12_worked_133 : decode cX12_worked 133 = .ok (.iconst 0, 1) := by decide +kernel
theorem dX12_worked_134 : decode cX12_worked 134 = .ok (.ireturn, 1) := by decide +kernel
theorem dX12_worked_135 : decode cX12_worked 135 = .ok (.aload_n 0, 1) := by decide +kernel
theorem dX12_worked_136 : decode cX12_worked 136 = .ok (.iload_n 1, 1) := by decide +kernel
theorem dX12_worked_137 : decode cX12_worked 137 = .ok (.invokevirtual 281, 3) := by decide +kernel
theorem dX12_worked_140 : decode cX12_worked 140 = .ok (.ifCond .le 7, 3) := by decide +kernel
theorem dX12_worked_143 : decode cX12_worked 143 = .ok (.iconst 1, 1) := by decide +kernel
theorem dX12_worked_144 : decode cX12_worked 144 = .ok (.goto 4, 3) := by decide +kernel
theorem dX12_worked_147 : decode cX12_worked 147 = .ok (.iconst 0, 1) := by decide +kernel
theorem dX12_worked_148 : decode cX12_worked 148 = .ok (.istore_n 3, 1) := by decide +kernel
theorem dX12_worked_149 : decode cX12_worked 149 = .ok (.aload_n 0, 1) := by decide +kernel
theorem dX12_worked_150 : decode cX12_worked 150 = .ok (.iload_n 1, 1) := by decide +kernel
theorem dX12_worked_151 : decode cX12_worked 151 = .ok (.ifCond .eq 11, 3) := by decide +kernel
theorem dX12_worked_154 : decode cX12_worked 154 = .ok (.iload_n 3, 1) := by decide +kernel
theorem dX12_worked_155 : decode cX12_worked 155 = .ok (.ifCond .eq 7, 3) := by decide +kernel
theorem dX12_worked_158 : decode cX12_worked 158 = .ok (.iconst 1, 1) := by decide +kernel
theorem dX12_worked_159 : decode cX12_worked 159 = .ok (.goto 4, 3) := by decide +kernel
theorem dX12_worked_162 : decode cX12_worked 162 = .ok (.iconst 0, 1) := by decide +kernel
theorem dX12_worked_163 : decode cX12_worked 163 = .ok (.invokevirtual 281, 3) := by decide +kernel
theorem dX12_worked_166 : decode cX12_worked 166 = .ok (.istore 4, 2) := by decide +kernel
theorem dX12_worked_168 : decode cX12_worked 168 = .ok (.aload_n 0, 1) := by decide +kernel
theorem dX12_worked_169 : decode cX12_worked 169 = .ok (.iload_n 1, 1) := by decide +kernel
theorem dX12_worked_170 : decode cX12_worked 170 = .ok (.ifCond .eq 11, 3) := by decide +kernel
theorem dX12_worked_173 : decode cX12_worked 173 = .ok (.iload_n 3, 1) := by decide +kernel
theorem dX12_worked_174 : decode cX12_worked 174 = .ok (.ifCond .ne 7, 3) := by decide +kernel
theorem dX12_worked_177 : decode cX12_worked 177 = .ok (.iconst 1, 1) := by decide +kernel
theorem dX12_worked_178 : decode cX12_worked 178 = .ok (.goto 4, 3) := by decide +kernel
theorem dX12_worked_181 : decode cX12_worked 181 = .ok (.iconst 0, 1) := by decide +kernel
theorem dX12_worked_182 : decode cX12_worked 182 = .ok (.invokevirtual 281, 3) := by decide +kernel
theorem dX12_worked_185 : decode cX12_worked 185 = .ok (.istore 5, 2) := by decide +kernel
theorem dX12_worked_187 : decode cX12_worked 187 = .ok (.iload_n 3, 1) := by decide +kernel
theorem dX12_worked_188 : decode cX12_worked 188 = .ok (.ifCond .eq 8, 3) := by decide +kernel
theorem dX12_worked_191 : decode cX12_worked 191 = .ok (.iload 4, 2) := by decide +kernel
theorem dX12_worked_193 : decode cX12_worked 193 = .ok (.goto 5, 3) := by decide +kernel
theorem dX12_worked_196 : decode cX12_worked 196 = .ok (.iload 5, 2) := by decide +kernel
theorem dX12_worked_198 : decode cX12_worked 198 = .ok (.ireturn, 1) := by decide +kernel
theorem dX12_worked_199 : decode cX12_worked 199 = .ok (.aload_n 0, 1) := by decide +kernel
theorem dX12_worked_200 : decode cX12_worked 200 = .ok (.iload_n 1, 1) := by decide +kernel
theorem dX12_worked_201 : decode cX12_worked 201 = .ok (.invokevirtual 281, 3) := by decide +kernel
theorem dX12_worked_204 : decode cX12_worked 204 = .ok (.istore_n 3, 1) := by decide +kernel
theorem dX12_worked_205 : decode cX12_worked 205 = .ok (.aload_n 0, 1) := by decide +kernel
theorem dX12_worked_206 : decode cX12_worked 206 = .ok (.iload_n 1, 1) := by decide +kernel
theorem dX12_worked_207 : decode cX12_worked 207 = .ok (.invokevirtual 281, 3) := by decide +kernel
theorem dX12_worked_210 : decode cX12_worked 210 = .ok (.istore 4, 2) := by decide +kernel
theorem dX12_worked_212 : decode cX12_worked 212 = .ok (.aload_n 0, 1) := by decide +kernel
theorem dX12_worked_213 : decode cX12_worked 213 = .ok (.getfield 72, 3) := by decide +kernel
theorem dX12_worked_216 : decode cX12_worked 216 = .ok (.iload_n 2, 1) := by decide +kernel
theorem dX12_worked_217 : decode cX12_worked 217 = .ok (.iaload, 1) := by decide +kernel
theorem dX12_worked_218 : decode cX12_worked 218 = .ok (.bipush 8, 2) := by decide +kernel
theorem dX12_worked_220 : decode cX12_worked 220 = .ok (.if_icmp .ne 30, 3) := by decide +kernel
theorem dX12_worked_223 : decode cX12_worked 223 = .ok (.iload 4, 2) := by decide +kernel
theorem dX12_worked_225 : decode cX12_worked 225 = .ok (.ifCond .ne 25, 3) := by decide +kernel
theorem dX12_worked_228 : decode cX12_worked 228 = .ok (.aload_n 0, 1) := by decide +kernel
theorem dX12_worked_229 : decode cX12_worked 229 = .ok (.aload_n 0, 1) := by decide +kernel
theorem dX12_worked_230 : decode cX12_worked 230 = .ok (.getfield 285, 3) := by decide +kernel
theorem dX12_worked_233 : decode cX12_worked 233 = .ok (.ifCond .ne 7, 3) := by decide +kernel
theorem dX12_worked_236 : decode cX12_worked 236 = .ok (.iload_n 1, 1) := by decide +kernel
theorem dX12_worked_237 : decode cX12_worked 237 = .ok (.ifCond .eq 7, 3) := by decide +kernel
theorem dX12_worked_240 : decode cX12_worked 240 = .ok (.iconst 1, 1) := by decide +kernel
theorem dX12_worked_241 : decode cX12_worked 241 = .ok (.goto 4, 3) := by decide +kernel
theorem dX12_worked_244 : decode cX12_worked 244 = .ok (.iconst 0, 1) := by decide +kernel
theorem dX12_worked_245 : decode cX12_worked 245 = .ok (.putfield 285, 3) := by decide +kernel
theorem dX12_worked_248 : decode cX12_worked 248 = .ok (.iconst 0, 1) := by decide +kernel
theorem dX12_worked_249 : decode cX12_worked 249 = .ok (.ireturn, 1) := by decide +kernel
theorem dX12_worked_250 : decode cX12_worked 250 = .ok (.aload_n 0, 1) := by decide +kernel
theorem dX12_worked_251 : decode cX12_worked 251 = .ok (.getfield 72, 3) := by decide +kernel
theorem dX12_worked_254 : decode cX12_worked 254 = .ok (.iload_n 2, 1) := by decide +kernel
theorem dX12_worked_255 : decode cX12_worked 255 = .ok (.iaload, 1) := by decide +kernel
theorem dX12_worked_256 : decode cX12_worked 256 = .ok (.iconst 5, 1) := by decide +kernel
theorem dX12_worked_257 : decode cX12_worked 257 = .ok (.if_icmp .ne 10, 3) := by decide +kernel
theorem dX12_worked_260 : decode cX12_worked 260 = .ok (.iload_n 3, 1) := by decide +kernel
theorem dX12_worked_261 : decode cX12_worked 261 = .ok (.iload 4, 2) := by decide +kernel
theorem dX12_worked_263 : decode cX12_worked 263 = .ok (.iadd, 1) := by decide +kernel
theorem dX12_worked_264 : decode cX12_worked 264 = .ok (.goto 43, 3) := by decide +kernel
theorem dX12_worked_267 : decode cX12_worked 267 = .ok (.aload_n 0, 1) := by decide +kernel
theorem dX12_worked_268 : decode cX12_worked 268 = .ok (.getfield 72, 3) := by decide +kernel
theorem dX12_worked_271 : decode cX12_worked 271 = .ok (.iload_n 2, 1) := by decide +kernel
theorem dX12_worked_272 : decode cX12_worked 272 = .ok (.iaload, 1) := by decide +kernel
theorem dX12_worked_273 : decode cX12_worked 273 = .ok (.bipush 6, 2) := by decide +kernel
theorem dX12_worked_275 : decode cX12_worked 275 = .ok (.if_icmp .ne 10, 3) := by decide +kernel
theorem dX12_worked_278 : decode cX12_worked 278 = .ok (.iload_n 3, 1) := by decide +kernel
theorem dX12_worked_279 : decode cX12_worked 279 = .ok (.iload 4, 2) := by decide +kernel
theorem dX12_worked_281 : decode cX12_worked 281 = .ok (.isub, 1) := by decide +kernel
theorem dX12_worked_282 : decode cX12_worked 282 = .ok (.goto 25, 3) := by decide +kernel
theorem dX12_worked_285 : decode cX12_worked 285 = .ok (.aload_n 0, 1) := by decide +kernel
theorem dX12_worked_286 : decode cX12_worked 286 = .ok (.getfield 72, 3) := by decide +kernel
theorem dX12_worked_289 : decode cX12_worked 289 = .ok (.iload_n 2, 1) := by decide +kernel
theorem dX12_worked_290 : decode cX12_worked 290 = .ok (.iaload, 1) := by decide +kernel
theorem dX12_worked_291 : decode cX12_worked 291 = .ok (.bipush 7, 2) := by decide +kernel
theorem dX12_worked_293 : decode cX12_worked 293 = .ok (.if_icmp .ne 10, 3) := by decide +kernel
theorem dX12_worked_296 : decode cX12_worked 296 = .ok (.iload_n 3, 1) := by decide +kernel
theorem dX12_worked_297 : decode cX12_worked 297 = .ok (.iload 4, 2) := by decide +kernel
theorem dX12_worked_299 : decode cX12_worked 299 = .ok (.imul, 1) := by decide +kernel
theorem dX12_worked_300 : decode cX12_worked 300 = .ok (.goto 7, 3) := by decide +kernel
theorem dX12_worked_303 : decode cX12_worked 303 = .ok (.iload_n 3, 1) := by decide +kernel
theorem dX12_worked_304 : decode cX12_worked 304 = .ok (.iload 4, 2) := by decide +kernel
theorem dX12_worked_306 : decode cX12_worked 306 = .ok (.idiv, 1) := by decide +kernel
theorem dX12_worked_307 : decode cX12_worked 307 = .ok (.ireturn, 1) := by decide +kernel
theorem dX12_pointsOf_0 : decode cX12_pointsOf 0 = .ok (.aload_n 0, 1) := by decide +kernel
theorem dX12_pointsOf_1 : decode cX12_pointsOf 1 = .ok (.getfield 56, 3) := by decide +kernel
theorem dX12_pointsOf_4 : decode cX12_pointsOf 4 = .ok (.iload_n 1, 1) := by decide +kernel
theorem dX12_pointsOf_5 : decode cX12_pointsOf 5 = .ok (.iaload, 1) := by decide +kernel
theorem dX12_pointsOf_6 : decode cX12_pointsOf 6 = .ok (.ifCond .ge 5, 3) := by decide +kernel
theorem dX12_pointsOf_9 : decode cX12_pointsOf 9 = .ok (.iconst 0, 1) := by decide +kernel
theorem dX12_pointsOf_10 : decode cX12_pointsOf 10 = .ok (.ireturn, 1) := by decide +kernel
theorem dX12_pointsOf_11 : decode cX12_pointsOf 11 = .ok (.aload_n 0, 1) := by decide +kernel
theorem dX12_pointsOf_12 : decode cX12_pointsOf 12 = .ok (.iload_n 1, 1) := by decide +kernel
theorem dX12_pointsOf_13 : decode cX12_pointsOf 13 = .ok (.bipush 48, 2) := by decide +kernel
theorem dX12_pointsOf_15 : decode cX12_pointsOf 15 = .ok (.idiv, 1) := by decide +kernel
theorem dX12_pointsOf_16 : decode cX12_pointsOf 16 = .ok (.putfield 266, 3) := by decide +kernel
theorem dX12_pointsOf_19 : decode cX12_pointsOf 19 = .ok (.aload_n 0, 1) := by decide +kernel
theorem dX12_pointsOf_20 : decode cX12_pointsOf 20 = .ok (.aload_n 0, 1) := by decide +kernel
theorem dX12_pointsOf_21 : decode cX12_pointsOf 21 = .ok (.getfield 56, 3) := by decide +kernel
theorem dX12_pointsOf_24 : decode cX12_pointsOf 24 = .ok (.iload_n 1, 1) := by decide +kernel
theorem dX12_pointsOf_25 : decode cX12_pointsOf 25 = .ok (.iaload, 1) := by decide +kernel
theorem dX12_pointsOf_26 : decode cX12_pointsOf 26 = .ok (.putfield 269, 3) := by decide +kernel
theorem dX12_pointsOf_29 : decode cX12_pointsOf 29 = .ok (.aload_n 0, 1) := by decide +kernel
theorem dX12_pointsOf_30 : decode cX12_pointsOf 30 = .ok (.iload_n 1, 1) := by decide +kernel
theorem dX12_pointsOf_31 : decode cX12_pointsOf 31 = .ok (.bipush 16, 2) := by decide +kernel
theorem dX12_pointsOf_33 : decode cX12_pointsOf 33 = .ok (.idiv, 1) := by decide +kernel
theorem dX12_pointsOf_34 : decode cX12_pointsOf 34 = .ok (.iconst 3, 1) := by decide +kernel
theorem dX12_pointsOf_35 : decode cX12_pointsOf 35 = .ok (.irem, 1) := by decide +kernel
theorem dX12_pointsOf_36 : decode cX12_pointsOf 36 = .ok (.putfield 275, 3) := by decide +kernel
theorem dX12_pointsOf_39 : decode cX12_pointsOf 39 = .ok (.aload_n 0, 1) := by decide +kernel
theorem dX12_pointsOf_40 : decode cX12_pointsOf 40 = .ok (.iconst 0, 1) := by decide +kernel
theorem dX12_pointsOf_41 : decode cX12_pointsOf 41 = .ok (.putfield 272, 3) := by decide +kernel
theorem dX12_pointsOf_44 : decode cX12_pointsOf 44 = .ok (.aload_n 0, 1) := by decide +kernel
theorem dX12_pointsOf_45 : decode cX12_pointsOf 45 = .ok (.iconst 1, 1) := by decide +kernel
theorem dX12_pointsOf_46 : decode cX12_pointsOf 46 = .ok (.invokevirtual 281, 3) := by decide +kernel
theorem dX12_pointsOf_49 : decode cX12_pointsOf 49 = .ok (.ireturn, 1) := by decide +kernel
theorem dX12_window_0 : decode cX12_window 0 = .ok (.iload_n 1, 1) := by decide +kernel
theorem dX12_window_1 : decode cX12_window 1 = .ok (.i2l, 1) := by decide +kernel
theorem dX12_window_2 : decode cX12_window 2 = .ok (.lconst 0, 1) := by decide +kernel
theorem dX12_window_3 : decode cX12_window 3 = .ok (.ldc2_w 288, 3) := by decide +kernel
theorem dX12_window_6 : decode cX12_window 6 = .ok (.invokestatic 133, 3) := by decide +kernel
theorem dX12_window_9 : decode cX12_window 9 = .ok (.ifCond .ne 5, 3) := by decide +kernel
theorem dX12_window_12 : decode cX12_window 12 = .ok (.iconst (-1), 1) := by decide +kernel
theorem dX12_window_13 : decode cX12_window 13 = .ok (.ireturn, 1) := by decide +kernel
theorem dX12_window_14 : decode cX12_window 14 = .ok (.aload_n 0, 1) := by decide +kernel
theorem dX12_window_15 : decode cX12_window 15 = .ok (.iload_n 1, 1) := by decide +kernel
theorem dX12_window_16 : decode cX12_window 16 = .ok (.putfield 65, 3) := by decide +kernel
theorem dX12_window_19 : decode cX12_window 19 = .ok (.aload_n 0, 1) := by decide +kernel
theorem dX12_window_20 : decode cX12_window 20 = .ok (.iconst 0, 1) := by decide +kernel
theorem dX12_window_21 : decode cX12_window 21 = .ok (.putfield 186, 3) := by decide +kernel
theorem dX12_window_24 : decode cX12_window 24 = .ok (.iconst 1, 1) := by decide +kernel
theorem dX12_window_25 : decode cX12_window 25 = .ok (.ireturn, 1) := by decide +kernel
theorem dX12_penalty_0 : decode cX12_penalty 0 = .ok (.iload_n 1, 1) := by decide +kernel
theorem dX12_penalty_1 : decode cX12_penalty 1 = .ok (.i2l, 1) := by decide +kernel
theorem dX12_penalty_2 : decode cX12_penalty 2 = .ok (.lconst 0, 1) := by decide +kernel
theorem dX12_penalty_3 : decode cX12_penalty 3 = .ok (.ldc2_w 290, 3) := by decide +kernel
theorem dX12_penalty_6 : decode cX12_penalty 6 = .ok (.invokestatic 133, 3) := by decide +kernel
theorem dX12_penalty_9 : decode cX12_penalty 9 = .ok (.ifCond .ne 5, 3) := by decide +kernel
theorem dX12_penalty_12 : decode cX12_penalty 12 = .ok (.iconst (-1), 1) := by decide +kernel
theorem dX12_penalty_13 : decode cX12_penalty 13 = .ok (.ireturn, 1) := by decide +kernel
theorem dX12_penalty_14 : decode cX12_penalty 14 = .ok (.aload_n 0, 1) := by decide +kernel
theorem dX12_penalty_15 : decode cX12_penalty 15 = .ok (.iload_n 1, 1) := by decide +kernel
theorem dX12_penalty_16 : decode cX12_penalty 16 = .ok (.putfield 292, 3) := by decide +kernel
theorem dX12_penalty_19 : decode cX12_penalty 19 = .ok (.iconst 1, 1) := by decide +kernel
theorem dX12_penalty_20 : decode cX12_penalty 20 = .ok (.ireturn, 1) := by decide +kernel
theorem dX12_hasLog_0 : decode cX12_hasLog 0 = .ok (.aload_n 0, 1) := by decide +kernel
theorem dX12_hasLog_1 : decode cX12_hasLog 1 = .ok (.iload_n 1, 1) := by decide +kernel
theorem dX12_hasLog_2 : decode cX12_hasLog 2 = .ok (.invokevirtual 190, 3) := by decide +kernel
theorem dX12_hasLog_5 : decode cX12_hasLog 5 = .ok (.ifCond .eq 44, 3) := by decide +kernel
theorem dX12_hasLog_8 : decode cX12_hasLog 8 = .ok (.aload_n 0, 1) := by decide +kernel
theorem dX12_hasLog_9 : decode cX12_hasLog 9 = .ok (.getfield 31, 3) := by decide +kernel
theorem dX12_hasLog_12 : decode cX12_hasLog 12 = .ok (.iconst 3, 1) := by decide +kernel
theorem dX12_hasLog_13 : decode cX12_hasLog 13 = .ok (.iload_n 1, 1) := by decide +kernel
theorem dX12_hasLog_14 : decode cX12_hasLog 14 = .ok (.imul, 1) := by decide +kernel
theorem dX12_hasLog_15 : decode cX12_hasLog 15 = .ok (.iaload, 1) := by decide +kernel
theorem dX12_hasLog_16 : decode cX12_hasLog 16 = .ok (.ifCond .ge 29, 3) := by decide +kernel
theorem dX12_hasLog_19 : decode cX12_hasLog 19 = .ok (.aload_n 0, 1) := by decide +kernel
theorem dX12_hasLog_20 : decode cX12_hasLog 20 = .ok (.getfield 31, 3) := by decide +kernel
theorem dX12_hasLog_23 : decode cX12_hasLog 23 = .ok (.iconst 3, 1) := by decide +kernel
theorem dX12_hasLog_24 : decode cX12_hasLog 24 = .ok (.iload_n 1, 1) := by decide +kernel
theorem dX12_hasLog_25 : decode cX12_hasLog 25 = .ok (.imul, 1) := by decide +kernel
theorem dX12_hasLog_26 : decode cX12_hasLog 26 = .ok (.iconst 1, 1) := by decide +kernel
theorem dX12_hasLog_27 : decode cX12_hasLog 27 = .ok (.iadd, 1) := by decide +kernel
theorem dX12_hasLog_28 : decode cX12_hasLog 28 = .ok (.iaload, 1) := by decide +kernel
theorem dX12_hasLog_29 : decode cX12_hasLog 29 = .ok (.ifCond .ge 16, 3) := by decide +kernel
theorem dX12_hasLog_32 : decode cX12_hasLog 32 = .ok (.aload_n 0, 1) := by decide +kernel
theorem dX12_hasLog_33 : decode cX12_hasLog 33 = .ok (.getfield 31, 3) := by decide +kernel
theorem dX12_hasLog_36 : decode cX12_hasLog 36 = .ok (.iconst 3, 1) := by decide +kernel
theorem dX12_hasLog_37 : decode cX12_hasLog 37 = .ok (.iload_n 1, 1) := by decide +kernel
theorem dX12_hasLog_38 : decode cX12_hasLog 38 = .ok (.imul, 1) := by decide +kernel
theorem dX12_hasLog_39 : decode cX12_hasLog 39 = .ok (.iconst 2, 1) := by decide +kernel
theorem dX12_hasLog_40 : decode cX12_hasLog 40 = .ok (.iadd, 1) := by decide +kernel
theorem dX12_hasLog_41 : decode cX12_hasLog 41 = .ok (.iaload, 1) := by decide +kernel
theorem dX12_hasLog_42 : decode cX12_hasLog 42 = .ok (.ifCond .lt 7, 3) := by decide +kernel
theorem dX12_hasLog_45 : decode cX12_hasLog 45 = .ok (.iconst 1, 1) := by decide +kernel
theorem dX12_hasLog_46 : decode cX12_hasLog 46 = .ok (.goto 4, 3) := by decide +kernel
theorem dX12_hasLog_49 : decode cX12_hasLog 49 = .ok (.iconst 0, 1) := by decide +kernel
theorem dX12_hasLog_50 : decode cX12_hasLog 50 = .ok (.ireturn, 1) := by decide +kernel
theorem dX12_isContactAt_0 : decode cX12_isContactAt 0 = .ok (.iload_n 1, 1) := by decide +kernel
theorem dX12_isContactAt_1 : decode cX12_isContactAt 1 = .ok (.bipush 16, 2) := by decide +kernel
theorem dX12_isContactAt_3 : decode cX12_isContactAt 3 = .ok (.irem, 1) := by decide +kernel
theorem dX12_isContactAt_4 : decode cX12_isContactAt 4 = .ok (.aload_n 0, 1) := by decide +kernel
theorem dX12_isContactAt_5 : decode cX12_isContactAt 5 = .ok (.getfield 31, 3) := by decide +kernel
theorem dX12_isContactAt_8 : decode cX12_isContactAt 8 = .ok (.iload_n 1, 1) := by decide +kernel
theorem dX12_isContactAt_9 : decode cX12_isContactAt 9 = .ok (.bipush 16, 2) := by decide +kernel
theorem dX12_isContactAt_11 : decode cX12_isContactAt 11 = .ok (.idiv, 1) := by decide +kernel
theorem dX12_isContactAt_12 : decode cX12_isContactAt 12 = .ok (.iaload, 1) := by decide +kernel
theorem dX12_isContactAt_13 : decode cX12_isContactAt 13 = .ok (.if_icmp .ge 16, 3) := by decide +kernel
theorem dX12_isContactAt_16 : decode cX12_isContactAt 16 = .ok (.aload_n 0, 1) := by decide +kernel
theorem dX12_isContactAt_17 : decode cX12_isContactAt 17 = .ok (.getfield 34, 3) := by decide +kernel
theorem dX12_isContactAt_20 : decode cX12_isContactAt 20 = .ok (.iload_n 1, 1) := by decide +kernel
theorem dX12_isContactAt_21 : decode cX12_isContactAt 21 = .ok (.iaload, 1) := by decide +kernel
theorem dX12_isContactAt_22 : decode cX12_isContactAt 22 = .ok (.ifCond .ne 7, 3) := by decide +kernel
theorem dX12_isContactAt_25 : decode cX12_isContactAt 25 = .ok (.iconst 1, 1) := by decide +kernel
theorem dX12_isContactAt_26 : decode cX12_isContactAt 26 = .ok (.goto 4, 3) := by decide +kernel
theorem dX12_isContactAt_29 : decode cX12_isContactAt 29 = .ok (.iconst 0, 1) := by decide +kernel
theorem dX12_isContactAt_30 : decode cX12_isContactAt 30 = .ok (.ireturn, 1) := by decide +kernel
theorem dX12_isWhole_0 : decode cX12_isWhole 0 = .ok (.aload_n 0, 1) := by decide +kernel
theorem dX12_isWhole_1 : decode cX12_isWhole 1 = .ok (.getfield 50, 3) := by decide +kernel
theorem dX12_isWhole_4 : decode cX12_isWhole 4 = .ok (.iload_n 1, 1) := by decide +kernel
theorem dX12_isWhole_5 : decode cX12_isWhole 5 = .ok (.iaload, 1) := by decide +kernel
theorem dX12_isWhole_6 : decode cX12_isWhole 6 = .ok (.ifCond .lt 16, 3) := by decide +kernel
theorem dX12_isWhole_9 : decode cX12_isWhole 9 = .ok (.aload_n 0, 1) := by decide +kernel
theorem dX12_isWhole_10 : decode cX12_isWhole 10 = .ok (.getfield 53, 3) := by decide +kernel
theorem dX12_isWhole_13 : decode cX12_isWhole 13 = .ok (.iload_n 1, 1) := by decide +kernel
theorem dX12_isWhole_14 : decode cX12_isWhole 14 = .ok (.iaload, 1) := by decide +kernel
theorem dX12_isWhole_15 : decode cX12_isWhole 15 = .ok (.ifCond .lt 7, 3) := by decide +kernel
theorem dX12_isWhole_18 : decode cX12_isWhole 18 = .ok (.iconst 1, 1) := by decide +kernel
theorem dX12_isWhole_19 : decode cX12_isWhole 19 = .ok (.goto 4, 3) := by decide +kernel
theorem dX12_isWhole_22 : decode cX12_isWhole 22 = .ok (.iconst 0, 1) := by decide +kernel
theorem dX12_isWhole_23 : decode cX12_isWhole 23 = .ok (.ireturn, 1) := by decide +kernel
theorem dX12_fit_0 : decode cX12_fit 0 = .ok (.aload_n 0, 1) := by decide +kernel
theorem dX12_fit_1 : decode cX12_fit 1 = .ok (.iload_n 1, 1) := by decide +kernel
theorem dX12_fit_2 : decode cX12_fit 2 = .ok (.invokevirtual 295, 3) := by decide +kernel
theorem dX12_fit_5 : decode cX12_fit 5 = .ok (.ifCond .eq 45, 3) := by decide +kernel
theorem dX12_fit_8 : decode cX12_fit 8 = .ok (.aload_n 0, 1) := by decide +kernel
theorem dX12_fit_9 : decode cX12_fit 9 = .ok (.iload_n 2, 1) := by decide +kernel
theorem dX12_fit_10 : decode cX12_fit 10 = .ok (.invokevirtual 295, 3) := by decide +kernel
theorem dX12_fit_13 : decode cX12_fit 13 = .ok (.ifCond .eq 37, 3) := by decide +kernel
theorem dX12_fit_16 : decode cX12_fit 16 = .ok (.aload_n 0, 1) := by decide +kernel
theorem dX12_fit_17 : decode cX12_fit 17 = .ok (.getfield 53, 3) := by decide +kernel
theorem dX12_fit_20 : decode cX12_fit 20 = .ok (.iload_n 1, 1) := by decide +kernel
theorem dX12_fit_21 : decode cX12_fit 21 = .ok (.iaload, 1) := by decide +kernel
theorem dX12_fit_22 : decode cX12_fit 22 = .ok (.aload_n 0, 1) := by decide +kernel
theorem dX12_fit_23 : decode cX12_fit 23 = .ok (.getfield 50, 3) := by decide +kernel
theorem dX12_fit_26 : decode cX12_fit 26 = .ok (.iload_n 2, 1) := by decide +kernel
theorem dX12_fit_27 : decode cX12_fit 27 = .ok (.iaload, 1) := by decide +kernel
theorem dX12_fit_28 : decode cX12_fit 28 = .ok (.if_icmp .ne 22, 3) := by decide +kernel
theorem dX12_fit_31 : decode cX12_fit 31 = .ok (.aload_n 0, 1) := by decide +kernel
theorem dX12_fit_32 : decode cX12_fit 32 = .ok (.getfield 53, 3) := by decide +kernel
theorem dX12_fit_35 : decode cX12_fit 35 = .ok (.iload_n 2, 1) := by decide +kernel
theorem dX12_fit_36 : decode cX12_fit 36 = .ok (.iaload, 1) := by decide +kernel
theorem dX12_fit_37 : decode cX12_fit 37 = .ok (.aload_n 0, 1) := by decide +kernel
theorem dX12_fit_38 : decode cX12_fit 38 = .ok (.getfield 50, 3) := by decide +kernel
theorem dX12_fit_41 : decode cX12_fit 41 = .ok (.iload_n 1, 1) := by decide +kernel
theorem dX12_fit_42 : decode cX12_fit 42 = .ok (.iaload, 1) := by decide +kernel
theorem dX12_fit_43 : decode cX12_fit 43 = .ok (.if_icmp .ne 7, 3) := by decide +kernel
theorem dX12_fit_46 : decode cX12_fit 46 = .ok (.iconst 1, 1) := by decide +kernel
theorem dX12_fit_47 : decode cX12_fit 47 = .ok (.goto 4, 3) := by decide +kernel
theorem dX12_fit_50 : decode cX12_fit 50 = .ok (.iconst 0, 1) := by decide +kernel
theorem dX12_fit_51 : decode cX12_fit 51 = .ok (.ireturn, 1) := by decide +kernel
theorem dX12_apart_0 : decode cX12_apart 0 = .ok (.lload_n 0, 1) := by decide +kernel
theorem dX12_apart_1 : decode cX12_apart 1 = .ok (.lload_n 2, 1) := by decide +kernel
theorem dX12_apart_2 : decode cX12_apart 2 = .ok (.lcmp, 1) := by decide +kernel
theorem dX12_apart_3 : decode cX12_apart 3 = .ok (.ifCond .ge 9, 3) := by decide +kernel
theorem dX12_apart_6 : decode cX12_apart 6 = .ok (.lload_n 2, 1) := by decide +kernel
theorem dX12_apart_7 : decode cX12_apart 7 = .ok (.lload_n 0, 1) := by decide +kernel
theorem dX12_apart_8 : decode cX12_apart 8 = .ok (.lsub, 1) := by decide +kernel
theorem dX12_apart_9 : decode cX12_apart 9 = .ok (.goto 6, 3) := by decide +kernel
theorem dX12_apart_12 : decode cX12_apart 12 = .ok (.lload_n 0, 1) := by decide +kernel
theorem dX12_apart_13 : decode cX12_apart 13 = .ok (.lload_n 2, 1) := by decide +kernel
theorem dX12_apart_14 : decode cX12_apart 14 = .ok (.lsub, 1) := by decide +kernel
theorem dX12_apart_15 : decode cX12_apart 15 = .ok (.lreturn, 1) := by decide +kernel
theorem dX12_distanceOf_0 : decode cX12_distanceOf 0 = .ok (.iload_n 1, 1) := by decide +kernel
theorem dX12_distanceOf_1 : decode cX12_distanceOf 1 = .ok (.bipush 48, 2) := by decide +kernel
theorem dX12_distanceOf_3 : decode cX12_distanceOf 3 = .ok (.idiv, 1) := by decide +kernel
theorem dX12_distanceOf_4 : decode cX12_distanceOf 4 = .ok (.istore 7, 2) := by decide +kernel
theorem dX12_distanceOf_6 : decode cX12_distanceOf 6 = .ok (.iload_n 2, 1) := by decide +kernel
theorem dX12_distanceOf_7 : decode cX12_distanceOf 7 = .ok (.bipush 48, 2) := by decide +kernel
theorem dX12_distanceOf_9 : decode cX12_distanceOf 9 = .ok (.idiv, 1) := by decide +kernel
theorem dX12_distanceOf_10 : decode cX12_distanceOf 10 = .ok (.istore 8, 2) := by decide +kernel
theorem dX12_distanceOf_12 : decode cX12_distanceOf 12 = .ok (.iload 7, 2) := by decide +kernel
theorem dX12_distanceOf_14 : decode cX12_distanceOf 14 = .ok (.iload 8, 2) := by decide +kernel
theorem dX12_distanceOf_16 : decode cX12_distanceOf 16 = .ok (.if_icmp .eq 34, 3) := by decide +kernel
theorem dX12_distanceOf_19 : decode cX12_distanceOf 19 = .ok (.aload_n 0, 1) := by decide +kernel
theorem dX12_distanceOf_20 : decode cX12_distanceOf 20 = .ok (.getfield 56, 3) := by decide +kernel
theorem dX12_distanceOf_23 : decode cX12_distanceOf 23 = .ok (.iload_n 1, 1) := by decide +kernel
theorem dX12_distanceOf_24 : decode cX12_distanceOf 24 = .ok (.iaload, 1) := by decide +kernel
theorem dX12_distanceOf_25 : decode cX12_distanceOf 25 = .ok (.iload 8, 2) := by decide +kernel
theorem dX12_distanceOf_27 : decode cX12_distanceOf 27 = .ok (.if_icmp .ne 23, 3) := by decide +kernel
theorem dX12_distanceOf_30 : decode cX12_distanceOf 30 = .ok (.aload_n 0, 1) := by decide +kernel
theorem dX12_distanceOf_31 : decode cX12_distanceOf 31 = .ok (.getfield 56, 3) := by decide +kernel
theorem dX12_distanceOf_34 : decode cX12_distanceOf 34 = .ok (.iload_n 2, 1) := by decide +kernel
theorem dX12_distanceOf_35 : decode cX12_distanceOf 35 = .ok (.iaload, 1) := by decide +kernel
theorem dX12_distanceOf_36 : decode cX12_distanceOf 36 = .ok (.iload 7, 2) := by decide +kernel
theorem dX12_distanceOf_38 : decode cX12_distanceOf 38 = .ok (.if_icmp .ne 12, 3) := by decide +kernel
theorem dX12_distanceOf_41 : decode cX12_distanceOf 41 = .ok (.aload_n 0, 1) := by decide +kernel
theorem dX12_distanceOf_42 : decode cX12_distanceOf 42 = .ok (.iload_n 1, 1) := by decide +kernel
theorem dX12_distanceOf_43 : decode cX12_distanceOf 43 = .ok (.iload_n 2, 1) := by decide +kernel
theorem dX12_distanceOf_44 : decode cX12_distanceOf 44 = .ok (.invokevirtual 298, 3) := by decide +kernel
theorem dX12_distanceOf_47 : decode cX12_distanceOf 47 = .ok (.ifCond .ne 7, 3) := by decide +kernel
theorem dX12_distanceOf_50 : decode cX12_distanceOf 50 = .ok (.ldc2_w 301, 3) := by decide +kernel
theorem dX12_distanceOf_53 : decode cX12_distanceOf 53 = .ok (.lreturn, 1) := by decide +kernel
theorem dX12_distanceOf_54 : decode cX12_distanceOf 54 = .ok (.aload_n 0, 1) := by decide +kernel
theorem dX12_distanceOf_55 : decode cX12_distanceOf 55 = .ok (.getfield 37, 3) := by decide +kernel
theorem dX12_distanceOf_58 : decode cX12_distanceOf 58 = .ok (.iload_n 1, 1) := by decide +kernel
theorem dX12_distanceOf_59 : decode cX12_distanceOf 59 = .ok (.laload, 1) := by decide +kernel
theorem dX12_distanceOf_60 : decode cX12_distanceOf 60 = .ok (.lload_n 3, 1) := by decide +kernel
theorem dX12_distanceOf_61 : decode cX12_distanceOf 61 = .ok (.ladd, 1) := by decide +kernel
theorem dX12_distanceOf_62 : decode cX12_distanceOf 62 = .ok (.aload_n 0, 1) := by decide +kernel
theorem dX12_distanceOf_63 : decode cX12_distanceOf 63 = .ok (.getfield 37, 3) := by decide +kernel
theorem dX12_distanceOf_66 : decode cX12_distanceOf 66 = .ok (.iload_n 2, 1) := by decide +kernel
theorem dX12_distanceOf_67 : decode cX12_distanceOf 67 = .ok (.laload, 1) := by decide +kernel
theorem dX12_distanceOf_68 : decode cX12_distanceOf 68 = .ok (.lload 5, 2) := by decide +kernel
theorem dX12_distanceOf_70 : decode cX12_distanceOf 70 = .ok (.ladd, 1) := by decide +kernel
theorem dX12_distanceOf_71 : decode cX12_distanceOf 71 = .ok (.invokestatic 303, 3) := by decide +kernel
theorem dX12_distanceOf_74 : decode cX12_distanceOf 74 = .ok (.lstore 9, 2) := by decide +kernel
theorem dX12_distanceOf_76 : decode cX12_distanceOf 76 = .ok (.lload 9, 2) := by decide +kernel
theorem dX12_distanceOf_78 : decode cX12_distanceOf 78 = .ok (.aload_n 0, 1) := by decide +kernel
theorem dX12_distanceOf_79 : decode cX12_distanceOf 79 = .ok (.getfield 65, 3) := by decide +kernel
theorem dX12_distanceOf_82 : decode cX12_distanceOf 82 = .ok (.i2l, 1) := by decide +kernel
theorem dX12_distanceOf_83 : decode cX12_distanceOf 83 = .ok (.lcmp, 1) := by decide +kernel
theorem dX12_distanceOf_84 : decode cX12_distanceOf 84 = .ok (.ifCond .le 9, 3) := by decide +kernel
theorem dX12_distanceOf_87 : decode cX12_distanceOf 87 = .ok (.ldc2_w 301, 3) := by decide +kernel
theorem dX12_distanceOf_90 : decode cX12_distanceOf 90 = .ok (.goto 5, 3) := by decide +kernel
theorem dX12_distanceOf_93 : decode cX12_distanceOf 93 = .ok (.lload 9, 2) := by decide +kernel
theorem dX12_distanceOf_95 : decode cX12_distanceOf 95 = .ok (.lreturn, 1) := by decide +kernel
theorem dX12_setCalled_0 : decode cX12_setCalled 0 = .ok (.iconst 0, 1) := by decide +kernel
theorem dX12_setCalled_1 : decode cX12_setCalled 1 = .ok (.istore_n 1, 1) := by decide +kernel
theorem dX12_setCalled_2 : decode cX12_setCalled 2 = .ok (.iload_n 1, 1) := by decide +kernel
theorem dX12_setCalled_3 : decode cX12_setCalled 3 = .ok (.sipush 576, 3) := by decide +kernel
theorem dX12_setCalled_6 : decode cX12_setCalled 6 = .ok (.if_icmp .ge 73, 3) := by decide +kernel
theorem dX12_setCalled_9 : decode cX12_setCalled 9 = .ok (.iload_n 1, 1) := by decide +kernel
theorem dX12_setCalled_10 : decode cX12_setCalled 10 = .ok (.bipush 48, 2) := by decide +kernel
theorem dX12_setCalled_12 : decode cX12_setCalled 12 = .ok (.idiv, 1) := by decide +kernel
theorem dX12_setCalled_13 : decode cX12_setCalled 13 = .ok (.aload_n 0, 1) := by decide +kernel
theorem dX12_setCalled_14 : decode cX12_setCalled 14 = .ok (.getfield 130, 3) := by decide +kernel
theorem dX12_setCalled_17 : decode cX12_setCalled 17 = .ok (.if_icmp .ge 15, 3) := by decide +kernel
theorem dX12_setCalled_20 : decode cX12_setCalled 20 = .ok (.aload_n 0, 1) := by decide +kernel
theorem dX12_setCalled_21 : decode cX12_setCalled 21 = .ok (.iload_n 1, 1) := by decide +kernel
theorem dX12_setCalled_22 : decode cX12_setCalled 22 = .ok (.invokevirtual 307, 3) := by decide +kernel
theorem dX12_setCalled_25 : decode cX12_setCalled 25 = .ok (.ifCond .eq 7, 3) := by decide +kernel
theorem dX12_setCalled_28 : decode cX12_setCalled 28 = .ok (.iconst 1, 1) := by decide +kernel
theorem dX12_setCalled_29 : decode cX12_setCalled 29 = .ok (.goto 4, 3) := by decide +kernel
theorem dX12_setCalled_32 : decode cX12_setCalled 32 = .ok (.iconst 0, 1) := by decide +kernel
theorem dX12_setCalled_33 : decode cX12_setCalled 33 = .ok (.istore_n 2, 1) := by decide +kernel
theorem dX12_setCalled_34 : decode cX12_setCalled 34 = .ok (.aload_n 0, 1) := by decide +kernel
theorem dX12_setCalled_35 : decode cX12_setCalled 35 = .ok (.getfield 56, 3) := by decide +kernel
theorem dX12_setCalled_38 : decode cX12_setCalled 38 = .ok (.iload_n 1, 1) := by decide +kernel
theorem dX12_setCalled_39 : decode cX12_setCalled 39 = .ok (.iload_n 2, 1) := by decide +kernel
theorem dX12_setCalled_40 : decode cX12_setCalled 40 = .ok (.ifCond .eq 24, 3) := by decide +kernel
theorem dX12_setCalled_43 : decode cX12_setCalled 43 = .ok (.aload_n 0, 1) := by decide +kernel
theorem dX12_setCalled_44 : decode cX12_setCalled 44 = .ok (.aload_n 0, 1) := by decide +kernel
theorem dX12_setCalled_45 : decode cX12_setCalled 45 = .ok (.getfield 47, 3) := by decide +kernel
theorem dX12_setCalled_48 : decode cX12_setCalled 48 = .ok (.bipush 6, 2) := by decide +kernel
theorem dX12_setCalled_50 : decode cX12_setCalled 50 = .ok (.iload_n 1, 1) := by decide +kernel
theorem dX12_setCalled_51 : decode cX12_setCalled 51 = .ok (.imul, 1) := by decide +kernel
theorem dX12_setCalled_52 : decode cX12_setCalled 52 = .ok (.aload_n 0, 1) := by decide +kernel
theorem dX12_setCalled_53 : decode cX12_setCalled 53 = .ok (.getfield 44, 3) := by decide +kernel
theorem dX12_setCalled_56 : decode cX12_setCalled 56 = .ok (.iload_n 1, 1) := by decide +kernel
theorem dX12_setCalled_57 : decode cX12_setCalled 57 = .ok (.iaload, 1) := by decide +kernel
theorem dX12_setCalled_58 : decode cX12_setCalled 58 = .ok (.invokevirtual 182, 3) := by decide +kernel
theorem dX12_setCalled_61 : decode cX12_setCalled 61 = .ok (.goto 4, 3) := by decide +kernel
theorem dX12_setCalled_64 : decode cX12_setCalled 64 = .ok (.iconst (-1), 1) := by decide +kernel
theorem dX12_setCalled_65 : decode cX12_setCalled 65 = .ok (.iastore, 1) := by decide +kernel
theorem dX12_setCalled_66 : decode cX12_setCalled 66 = .ok (.aload_n 0, 1) := by decide +kernel
theorem dX12_setCalled_67 : decode cX12_setCalled 67 = .ok (.getfield 59, 3) := by decide +kernel
theorem dX12_setCalled_70 : decode cX12_setCalled 70 = .ok (.iload_n 1, 1) := by decide +kernel
theorem dX12_setCalled_71 : decode cX12_setCalled 71 = .ok (.iconst (-1), 1) := by decide +kernel
theorem dX12_setCalled_72 : decode cX12_setCalled 72 = .ok (.iastore, 1) := by decide +kernel
theorem dX12_setCalled_73 : decode cX12_setCalled 73 = .ok (.iinc 1 1, 3) := by decide +kernel
theorem dX12_setCalled_76 : decode cX12_setCalled 76 = .ok (.goto (-74), 3) := by decide +kernel
theorem dX12_setCalled_79 : decode cX12_setCalled 79 = .ok (.return_, 1) := by decide +kernel
theorem dX12_agreeing_0 : decode cX12_agreeing 0 = .ok (.iconst 0, 1) := by decide +kernel
theorem dX12_agreeing_1 : decode cX12_agreeing 1 = .ok (.istore 4, 2) := by decide +kernel
theorem dX12_agreeing_3 : decode cX12_agreeing 3 = .ok (.bipush 48, 2) := by decide +kernel
theorem dX12_agreeing_5 : decode cX12_agreeing 5 = .ok (.iload_n 1, 1) := by decide +kernel
theorem dX12_agreeing_6 : decode cX12_agreeing 6 = .ok (.imul, 1) := by decide +kernel
theorem dX12_agreeing_7 : decode cX12_agreeing 7 = .ok (.istore 5, 2) := by decide +kernel
theorem dX12_agreeing_9 : decode cX12_agreeing 9 = .ok (.iload 5, 2) := by decide +kernel
theorem dX12_agreeing_11 : decode cX12_agreeing 11 = .ok (.bipush 48, 2) := by decide +kernel
theorem dX12_agreeing_13 : decode cX12_agreeing 13 = .ok (.iload_n 1, 1) := by decide +kernel
theorem dX12_agreeing_14 : decode cX12_agreeing 14 = .ok (.imul, 1) := by decide +kernel
theorem dX12_agreeing_15 : decode cX12_agreeing 15 = .ok (.bipush 48, 2) := by decide +kernel
theorem dX12_agreeing_17 : decode cX12_agreeing 17 = .ok (.iadd, 1) := by decide +kernel
theorem dX12_agreeing_18 : decode cX12_agreeing 18 = .ok (.if_icmp .ge 125, 3) := by decide +kernel
theorem dX12_agreeing_21 : decode cX12_agreeing 21 = .ok (.iconst 0, 1) := by decide +kernel
theorem dX12_agreeing_22 : decode cX12_agreeing 22 = .ok (.istore 6, 2) := by decide +kernel
theorem dX12_agreeing_24 : decode cX12_agreeing 24 = .ok (.aload_n 0, 1) := by decide +kernel
theorem dX12_agreeing_25 : decode cX12_agreeing 25 = .ok (.iload 5, 2) := by decide +kernel
theorem dX12_agreeing_27 : decode cX12_agreeing 27 = .ok (.invokevirtual 307, 3) := by decide +kernel
theorem dX12_agreeing_30 : decode cX12_agreeing 30 = .ok (.ifCond .eq 92, 3) := by decide +kernel
theorem dX12_agreeing_33 : decode cX12_agreeing 33 = .ok (.aload_n 0, 1) := by decide +kernel
theorem dX12_agreeing_34 : decode cX12_agreeing 34 = .ok (.getfield 56, 3) := by decide +kernel
theorem dX12_agreeing_37 : decode cX12_agreeing 37 = .ok (.iload 5, 2) := by decide +kernel
theorem dX12_agreeing_39 : decode cX12_agreeing 39 = .ok (.iaload, 1) := by decide +kernel
theorem dX12_agreeing_40 : decode cX12_agreeing 40 = .ok (.ifCond .lt 82, 3) := by decide +kernel
theorem dX12_agreeing_43 : decode cX12_agreeing 43 = .ok (.bipush 48, 2) := by decide +kernel
theorem dX12_agreeing_45 : decode cX12_agreeing 45 = .ok (.aload_n 0, 1) := by decide +kernel
theorem dX12_agreeing_46 : decode cX12_agreeing 46 = .ok (.getfield 56, 3) := by decide +kernel
theorem dX12_agreeing_49 : decode cX12_agreeing 49 = .ok (.iload 5, 2) := by decide +kernel
theorem dX12_agreeing_51 : decode cX12_agreeing 51 = .ok (.iaload, 1) := by decide +kernel
theorem dX12_agreeing_52 : decode cX12_agreeing 52 = .ok (.imul, 1) := by decide +kernel
theorem dX12_agreeing_53 : decode cX12_agreeing 53 = .ok (.iload 5, 2) := by decide +kernel
theorem dX12_agreeing_55 : decode cX12_agreeing 55 = .ok (.bipush 16, 2) := by decide +kernel
theorem dX12_agreeing_57 : decode cX12_agreeing 57 = .ok (.idiv, 1) := by decide +kernel
theorem dX12_agreeing_58 : decode cX12_agreeing 58 = .ok (.iconst 3, 1) := by decide +kernel
theorem dX12_agreeing_59 : decode cX12_agreeing 59 = .ok (.irem, 1) := by decide +kernel
theorem dX12_agreeing_60 : decode cX12_agreeing 60 = .ok (.bipush 16, 2) := by decide +kernel
theorem dX12_agreeing_62 : decode cX12_agreeing 62 = .ok (.imul, 1) := by decide +kernel
theorem dX12_agreeing_63 : decode cX12_agreeing 63 = .ok (.iadd, 1) := by decide +kernel
theorem dX12_agreeing_64 : decode cX12_agreeing 64 = .ok (.istore 7, 2) := by decide +kernel
theorem dX12_agreeing_66 : decode cX12_agreeing 66 = .ok (.iload 7, 2) := by decide +kernel
theorem dX12_agreeing_68 : decode cX12_agreeing 68 = .ok (.istore 8, 2) := by decide +kernel
theorem dX12_agreeing_70 : decode cX12_agreeing 70 = .ok (.iload 8, 2) := by decide +kernel
theorem dX12_agreeing_72 : decode cX12_agreeing 72 = .ok (.iload 7, 2) := by decide +kernel
theorem dX12_agreeing_74 : decode cX12_agreeing 74 = .ok (.bipush 16, 2) := by decide +kernel
theorem dX12_agreeing_76 : decode cX12_agreeing 76 = .ok (.iadd, 1) := by decide +kernel
theorem dX12_agreeing_77 : decode cX12_agreeing 77 = .ok (.if_icmp .ge 45, 3) := by decide +kernel
theorem dX12_agreeing_80 : decode cX12_agreeing 80 = .ok (.iload 6, 2) := by decide +kernel
theorem dX12_agreeing_82 : decode cX12_agreeing 82 = .ok (.ifCond .ne 40, 3) := by decide +kernel
theorem dX12_agreeing_85 : decode cX12_agreeing 85 = .ok (.aload_n 0, 1) := by decide +kernel
theorem dX12_agreeing_86 : decode cX12_agreeing 86 = .ok (.iload 8, 2) := by decide +kernel
theorem dX12_agreeing_88 : decode cX12_agreeing 88 = .ok (.invokevirtual 307, 3) := by decide +kernel
theorem dX12_agreeing_91 : decode cX12_agreeing 91 = .ok (.ifCond .eq 22, 3) := by decide +kernel
theorem dX12_agreeing_94 : decode cX12_agreeing 94 = .ok (.aload_n 0, 1) := by decide +kernel
theorem dX12_agreeing_95 : decode cX12_agreeing 95 = .ok (.iload 5, 2) := by decide +kernel
theorem dX12_agreeing_97 : decode cX12_agreeing 97 = .ok (.iload 8, 2) := by decide +kernel
theorem dX12_agreeing_99 : decode cX12_agreeing 99 = .ok (.lload_n 2, 1) := by decide +kernel
theorem dX12_agreeing_100 : decode cX12_agreeing 100 = .ok (.lconst 0, 1) := by decide +kernel
theorem dX12_agreeing_101 : decode cX12_agreeing 101 = .ok (.invokevirtual 310, 3) := by decide +kernel
theorem dX12_agreeing_104 : decode cX12_agreeing 104 = .ok (.lconst 0, 1) := by decide +kernel
theorem dX12_agreeing_105 : decode cX12_agreeing 105 = .ok (.lcmp, 1) := by decide +kernel
theorem dX12_agreeing_106 : decode cX12_agreeing 106 = .ok (.ifCond .lt 7, 3) := by decide +kernel
theorem dX12_agreeing_109 : decode cX12_agreeing 109 = .ok (.iconst 1, 1) := by decide +kernel
theorem dX12_agreeing_110 : decode cX12_agreeing 110 = .ok (.goto 4, 3) := by decide +kernel
theorem dX12_agreeing_113 : decode cX12_agreeing 113 = .ok (.iconst 0, 1) := by decide +kernel
theorem dX12_agreeing_114 : decode cX12_agreeing 114 = .ok (.istore 6, 2) := by decide +kernel
theorem dX12_agreeing_116 : decode cX12_agreeing 116 = .ok (.iinc 8 1, 3) := by decide +kernel
theorem dX12_agreeing_119 : decode cX12_agreeing 119 = .ok (.goto (-49), 3) := by decide +kernel
theorem dX12_agreeing_122 : decode cX12_agreeing 122 = .ok (.iload 4, 2) := by decide +kernel
theorem dX12_agreeing_124 : decode cX12_agreeing 124 = .ok (.iload 6, 2) := by decide +kernel
theorem dX12_agreeing_126 : decode cX12_agreeing 126 = .ok (.ifCond .eq 7, 3) := by decide +kernel
theorem dX12_agreeing_129 : decode cX12_agreeing 129 = .ok (.iconst 1, 1) := by decide +kernel
theorem dX12_agreeing_130 : decode cX12_agreeing 130 = .ok (.goto 4, 3) := by decide +kernel
theorem dX12_agreeing_133 : decode cX12_agreeing 133 = .ok (.iconst 0, 1) := by decide +kernel
theorem dX12_agreeing_134 : decode cX12_agreeing 134 = .ok (.iadd, 1) := by decide +kernel
theorem dX12_agreeing_135 : decode cX12_agreeing 135 = .ok (.istore 4, 2) := by decide +kernel
theorem dX12_agreeing_137 : decode cX12_agreeing 137 = .ok (.iinc 5 1, 3) := by decide +kernel
theorem dX12_agreeing_140 : decode cX12_agreeing 140 = .ok (.goto (-131), 3) := by decide +kernel
theorem dX12_agreeing_143 : decode cX12_agreeing 143 = .ok (.iload 4, 2) := by decide +kernel
theorem dX12_agreeing_145 : decode cX12_agreeing 145 = .ok (.ireturn, 1) := by decide +kernel
theorem dX12_plain_0 : decode cX12_plain 0 = .ok (.lload_n 0, 1) := by decide +kernel
theorem dX12_plain_1 : decode cX12_plain 1 = .ok (.lconst 0, 1) := by decide +kernel
theorem dX12_plain_2 : decode cX12_plain 2 = .ok (.lcmp, 1) := by decide +kernel
theorem dX12_plain_3 : decode cX12_plain 3 = .ok (.ifCond .ge 8, 3) := by decide +kernel
theorem dX12_plain_6 : decode cX12_plain 6 = .ok (.lload_n 0, 1) := by decide +kernel
theorem dX12_plain_7 : decode cX12_plain 7 = .ok (.lneg, 1) := by decide +kernel
theorem dX12_plain_8 : decode cX12_plain 8 = .ok (.goto 4, 3) := by decide +kernel
theorem dX12_plain_11 : decode cX12_plain 11 = .ok (.lload_n 0, 1) := by decide +kernel
theorem dX12_plain_12 : decode cX12_plain 12 = .ok (.lreturn, 1) := by decide +kernel
theorem dX12_offsetOf_0 : decode cX12_offsetOf 0 = .ok (.iconst 0, 1) := by decide +kernel
theorem dX12_offsetOf_1 : decode cX12_offsetOf 1 = .ok (.istore_n 2, 1) := by decide +kernel
theorem dX12_offsetOf_2 : decode cX12_offsetOf 2 = .ok (.bipush 48, 2) := by decide +kernel
theorem dX12_offsetOf_4 : decode cX12_offsetOf 4 = .ok (.iload_n 1, 1) := by decide +kernel
theorem dX12_offsetOf_5 : decode cX12_offsetOf 5 = .ok (.imul, 1) := by decide +kernel
theorem dX12_offsetOf_6 : decode cX12_offsetOf 6 = .ok (.istore_n 3, 1) := by decide +kernel
theorem dX12_offsetOf_7 : decode cX12_offsetOf 7 = .ok (.iload_n 3, 1) := by decide +kernel
theorem dX12_offsetOf_8 : decode cX12_offsetOf 8 = .ok (.bipush 48, 2) := by decide +kernel
theorem dX12_offsetOf_10 : decode cX12_offsetOf 10 = .ok (.iload_n 1, 1) := by decide +kernel
theorem dX12_offsetOf_11 : decode cX12_offsetOf 11 = .ok (.imul, 1) := by decide +kernel
theorem dX12_offsetOf_12 : decode cX12_offsetOf 12 = .ok (.bipush 48, 2) := by decide +kernel
theorem dX12_offsetOf_14 : decode cX12_offsetOf 14 = .ok (.iadd, 1) := by decide +kernel
theorem dX12_offsetOf_15 : decode cX12_offsetOf 15 = .ok (.if_icmp .ge 57, 3) := by decide +kernel
theorem dX12_offsetOf_18 : decode cX12_offsetOf 18 = .ok (.iload_n 2, 1) := by decide +kernel
theorem dX12_offsetOf_19 : decode cX12_offsetOf 19 = .ok (.aload_n 0, 1) := by decide +kernel
theorem dX12_offsetOf_20 : decode cX12_offsetOf 20 = .ok (.iload_n 3, 1) := by decide +kernel
theorem dX12_offsetOf_21 : decode cX12_offsetOf 21 = .ok (.invokevirtual 307, 3) := by decide +kernel
theorem dX12_offsetOf_24 : decode cX12_offsetOf 24 = .ok (.ifCond .eq 39, 3) := by decide +kernel
theorem dX12_offsetOf_27 : decode cX12_offsetOf 27 = .ok (.aload_n 0, 1) := by decide +kernel
theorem dX12_offsetOf_28 : decode cX12_offsetOf 28 = .ok (.getfield 56, 3) := by decide +kernel
theorem dX12_offsetOf_31 : decode cX12_offsetOf 31 = .ok (.iload_n 3, 1) := by decide +kernel
theorem dX12_offsetOf_32 : decode cX12_offsetOf 32 = .ok (.iaload, 1) := by decide +kernel
theorem dX12_offsetOf_33 : decode cX12_offsetOf 33 = .ok (.ifCond .lt 30, 3) := by decide +kernel
theorem dX12_offsetOf_36 : decode cX12_offsetOf 36 = .ok (.aload_n 0, 1) := by decide +kernel
theorem dX12_offsetOf_37 : decode cX12_offsetOf 37 = .ok (.getfield 56, 3) := by decide +kernel
theorem dX12_offsetOf_40 : decode cX12_offsetOf 40 = .ok (.iload_n 3, 1) := by decide +kernel
theorem dX12_offsetOf_41 : decode cX12_offsetOf 41 = .ok (.iaload, 1) := by decide +kernel
theorem dX12_offsetOf_42 : decode cX12_offsetOf 42 = .ok (.iload_n 1, 1) := by decide +kernel
theorem dX12_offsetOf_43 : decode cX12_offsetOf 43 = .ok (.if_icmp .eq 20, 3) := by decide +kernel
theorem dX12_offsetOf_46 : decode cX12_offsetOf 46 = .ok (.aload_n 0, 1) := by decide +kernel
theorem dX12_offsetOf_47 : decode cX12_offsetOf 47 = .ok (.aload_n 0, 1) := by decide +kernel
theorem dX12_offsetOf_48 : decode cX12_offsetOf 48 = .ok (.getfield 56, 3) := by decide +kernel
theorem dX12_offsetOf_51 : decode cX12_offsetOf 51 = .ok (.iload_n 3, 1) := by decide +kernel
theorem dX12_offsetOf_52 : decode cX12_offsetOf 52 = .ok (.iaload, 1) := by decide +kernel
theorem dX12_offsetOf_53 : decode cX12_offsetOf 53 = .ok (.invokevirtual 314, 3) := by decide +kernel
theorem dX12_offsetOf_56 : decode cX12_offsetOf 56 = .ok (.ifCond .eq 7, 3) := by decide +kernel
theorem dX12_offsetOf_59 : decode cX12_offsetOf 59 = .ok (.iconst 1, 1) := by decide +kernel
theorem dX12_offsetOf_60 : decode cX12_offsetOf 60 = .ok (.goto 4, 3) := by decide +kernel
theorem dX12_offsetOf_63 : decode cX12_offsetOf 63 = .ok (.iconst 0, 1) := by decide +kernel
theorem dX12_offsetOf_64 : decode cX12_offsetOf 64 = .ok (.iadd, 1) := by decide +kernel
theorem dX12_offsetOf_65 : decode cX12_offsetOf 65 = .ok (.istore_n 2, 1) := by decide +kernel
theorem dX12_offsetOf_66 : decode cX12_offsetOf 66 = .ok (.iinc 3 1, 3) := by decide +kernel
theorem dX12_offsetOf_69 : decode cX12_offsetOf 69 = .ok (.goto (-62), 3) := by decide +kernel
theorem dX12_offsetOf_72 : decode cX12_offsetOf 72 = .ok (.iconst 2, 1) := by decide +kernel
theorem dX12_offsetOf_73 : decode cX12_offsetOf 73 = .ok (.aload_n 0, 1) := by decide +kernel
theorem dX12_offsetOf_74 : decode cX12_offsetOf 74 = .ok (.iload_n 1, 1) := by decide +kernel
theorem dX12_offsetOf_75 : decode cX12_offsetOf 75 = .ok (.lconst 0, 1) := by decide +kernel
theorem dX12_offsetOf_76 : decode cX12_offsetOf 76 = .ok (.invokevirtual 317, 3) := by decide +kernel
theorem dX12_offsetOf_79 : decode cX12_offsetOf 79 = .ok (.imul, 1) := by decide +kernel
theorem dX12_offsetOf_80 : decode cX12_offsetOf 80 = .ok (.iload_n 2, 1) := by decide +kernel
theorem dX12_offsetOf_81 : decode cX12_offsetOf 81 = .ok (.if_icmp .le 5, 3) := by decide +kernel
theorem dX12_offsetOf_84 : decode cX12_offsetOf 84 = .ok (.lconst 0, 1) := by decide +kernel
theorem dX12_offsetOf_85 : decode cX12_offsetOf 85 = .ok (.lreturn, 1) := by decide +kernel
theorem dX12_offsetOf_86 : decode cX12_offsetOf 86 = .ok (.lconst 0, 1) := by decide +kernel
theorem dX12_offsetOf_87 : decode cX12_offsetOf 87 = .ok (.lstore_n 3, 1) := by decide +kernel
theorem dX12_offsetOf_88 : decode cX12_offsetOf 88 = .ok (.iconst 0, 1) := by decide +kernel
theorem dX12_offsetOf_89 : decode cX12_offsetOf 89 = .ok (.istore 5, 2) := by decide +kernel
theorem dX12_offsetOf_91 : decode cX12_offsetOf 91 = .ok (.bipush 48, 2) := by decide +kernel
theorem dX12_offsetOf_93 : decode cX12_offsetOf 93 = .ok (.iload_n 1, 1) := by decide +kernel
theorem dX12_offsetOf_94 : decode cX12_offsetOf 94 = .ok (.imul, 1) := by decide +kernel
theorem dX12_offsetOf_95 : decode cX12_offsetOf 95 = .ok (.istore 6, 2) := by decide +kernel
theorem dX12_offsetOf_97 : decode cX12_offsetOf 97 = .ok (.iload 6, 2) := by decide +kernel
theorem dX12_offsetOf_99 : decode cX12_offsetOf 99 = .ok (.bipush 48, 2) := by decide +kernel
theorem dX12_offsetOf_101 : decode cX12_offsetOf 101 = .ok (.iload_n 1, 1) := by decide +kernel
theorem dX12_offsetOf_102 : decode cX12_offsetOf 102 = .ok (.imul, 1) := by decide +kernel
theorem dX12_offsetOf_103 : decode cX12_offsetOf 103 = .ok (.bipush 48, 2) := by decide +kernel
theorem dX12_offsetOf_105 : decode cX12_offsetOf 105 = .ok (.iadd, 1) := by decide +kernel
theorem dX12_offsetOf_106 : decode cX12_offsetOf 106 = .ok (.if_icmp .ge 230, 3) := by decide +kernel
theorem dX12_offsetOf_109 : decode cX12_offsetOf 109 = .ok (.aload_n 0, 1) := by decide +kernel
theorem dX12_offsetOf_110 : decode cX12_offsetOf 110 = .ok (.iload 6, 2) := by decide +kernel
theorem dX12_offsetOf_112 : decode cX12_offsetOf 112 = .ok (.invokevirtual 307, 3) := by decide +kernel
theorem dX12_offsetOf_115 : decode cX12_offsetOf 115 = .ok (.ifCond .eq 215, 3) := by decide +kernel
theorem dX12_offsetOf_118 : decode cX12_offsetOf 118 = .ok (.aload_n 0, 1) := by decide +kernel
theorem dX12_offsetOf_119 : decode cX12_offsetOf 119 = .ok (.getfield 56, 3) := by decide +kernel
theorem dX12_offsetOf_122 : decode cX12_offsetOf 122 = .ok (.iload 6, 2) := by decide +kernel
theorem dX12_offsetOf_124 : decode cX12_offsetOf 124 = .ok (.iaload, 1) := by decide +kernel
theorem dX12_offsetOf_125 : decode cX12_offsetOf 125 = .ok (.ifCond .lt 205, 3) := by decide +kernel
theorem dX12_offsetOf_128 : decode cX12_offsetOf 128 = .ok (.aload_n 0, 1) := by decide +kernel
theorem dX12_offsetOf_129 : decode cX12_offsetOf 129 = .ok (.getfield 56, 3) := by decide +kernel
theorem dX12_offsetOf_132 : decode cX12_offsetOf 132 = .ok (.iload 6, 2) := by decide +kernel
theorem dX12_offsetOf_134 : decode cX12_offsetOf 134 = .ok (.iaload, 1) := by decide +kernel
theorem dX12_offsetOf_135 : decode cX12_offsetOf 135 = .ok (.iload_n 1, 1) := by decide +kernel
theorem dX12_offsetOf_136 : decode cX12_offsetOf 136 = .ok (.if_icmp .ne 6, 3) := by decide +kernel
theorem dX12_offsetOf_139 : decode cX12_offsetOf 139 = .ok (.goto 191, 3) := by decide +kernel
theorem dX12_offsetOf_142 : decode cX12_offsetOf 142 = .ok (.bipush 48, 2) := by decide +kernel
theorem dX12_offsetOf_144 : decode cX12_offsetOf 144 = .ok (.aload_n 0, 1) := by decide +kernel
theorem dX12_offsetOf_145 : decode cX12_offsetOf 145 = .ok (.getfield 56, 3) := by decide +kernel
theorem dX12_offsetOf_148 : decode cX12_offsetOf 148 = .ok (.iload 6, 2) := by decide +kernel
theorem dX12_offsetOf_150 : decode cX12_offsetOf 150 = .ok (.iaload, 1) := by decide +kernel
theorem dX12_offsetOf_151 : decode cX12_offsetOf 151 = .ok (.imul, 1) := by decide +kernel
theorem dX12_offsetOf_152 : decode cX12_offsetOf 152 = .ok (.iload 6, 2) := by decide +kernel
theorem dX12_offsetOf_154 : decode cX12_offsetOf 154 = .ok (.bipush 16, 2) := by decide +kernel
theorem dX12_offsetOf_156 : decode cX12_offsetOf 156 = .ok (.idiv, 1) := by decide +kernel
theorem dX12_offsetOf_157 : decode cX12_offsetOf 157 = .ok (.iconst 3, 1) := by decide +kernel
theorem dX12_offsetOf_158 : decode cX12_offsetOf 158 = .ok (.irem, 1) := by decide +kernel
theorem dX12_offsetOf_159 : decode cX12_offsetOf 159 = .ok (.bipush 16, 2) := by decide +kernel
theorem dX12_offsetOf_161 : decode cX12_offsetOf 161 = .ok (.imul, 1) := by decide +kernel
theorem dX12_offsetOf_162 : decode cX12_offsetOf 162 = .ok (.iadd, 1) := by decide +kernel
theorem dX12_offsetOf_163 : decode cX12_offsetOf 163 = .ok (.istore 7, 2) := by decide +kernel
theorem dX12_offsetOf_165 : decode cX12_offsetOf 165 = .ok (.iload 7, 2) := by decide +kernel
theorem dX12_offsetOf_167 : decode cX12_offsetOf 167 = .ok (.istore 8, 2) := by decide +kernel
theorem dX12_offsetOf_169 : decode cX12_offsetOf 169 = .ok (.iload 8, 2) := by decide +kernel
theorem dX12_offsetOf_171 : decode cX12_offsetOf 171 = .ok (.iload 7, 2) := by decide +kernel
theorem dX12_offsetOf_173 : decode cX12_offsetOf 173 = .ok (.bipush 16, 2) := by decide +kernel
theorem dX12_offsetOf_175 : decode cX12_offsetOf 175 = .ok (.iadd, 1) := by decide +kernel
theorem dX12_offsetOf_176 : decode cX12_offsetOf 176 = .ok (.if_icmp .ge 154, 3) := by decide +kernel
theorem dX12_offsetOf_179 : decode cX12_offsetOf 179 = .ok (.aload_n 0, 1) := by decide +kernel
theorem dX12_offsetOf_180 : decode cX12_offsetOf 180 = .ok (.iload 8, 2) := by decide +kernel
theorem dX12_offsetOf_182 : decode cX12_offsetOf 182 = .ok (.invokevirtual 307, 3) := by decide +kernel
theorem dX12_offsetOf_185 : decode cX12_offsetOf 185 = .ok (.ifCond .eq 139, 3) := by decide +kernel
theorem dX12_offsetOf_188 : decode cX12_offsetOf 188 = .ok (.aload_n 0, 1) := by decide +kernel
theorem dX12_offsetOf_189 : decode cX12_offsetOf 189 = .ok (.getfield 56, 3) := by decide +kernel
theorem dX12_offsetOf_192 : decode cX12_offsetOf 192 = .ok (.iload 8, 2) := by decide +kernel
theorem dX12_offsetOf_194 : decode cX12_offsetOf 194 = .ok (.iaload, 1) := by decide +kernel
theorem dX12_offsetOf_195 : decode cX12_offsetOf 195 = .ok (.iload_n 1, 1) := by decide +kernel
theorem dX12_offsetOf_196 : decode cX12_offsetOf 196 = .ok (.if_icmp .ne 128, 3) := by decide +kernel
theorem dX12_offsetOf_199 : decode cX12_offsetOf 199 = .ok (.aload_n 0, 1) := by decide +kernel
theorem dX12_offsetOf_200 : decode cX12_offsetOf 200 = .ok (.iload 6, 2) := by decide +kernel
theorem dX12_offsetOf_202 : decode cX12_offsetOf 202 = .ok (.iload 8, 2) := by decide +kernel
theorem dX12_offsetOf_204 : decode cX12_offsetOf 204 = .ok (.invokevirtual 298, 3) := by decide +kernel
theorem dX12_offsetOf_207 : decode cX12_offsetOf 207 = .ok (.ifCond .ne 6, 3) := by decide +kernel
theorem dX12_offsetOf_210 : decode cX12_offsetOf 210 = .ok (.goto 114, 3) := by decide +kernel
theorem dX12_offsetOf_213 : decode cX12_offsetOf 213 = .ok (.iconst (-1), 1) := by decide +kernel
theorem dX12_offsetOf_214 : decode cX12_offsetOf 214 = .ok (.istore 9, 2) := by decide +kernel
theorem dX12_offsetOf_216 : decode cX12_offsetOf 216 = .ok (.iload 9, 2) := by decide +kernel
theorem dX12_offsetOf_218 : decode cX12_offsetOf 218 = .ok (.iconst 2, 1) := by decide +kernel
theorem dX12_offsetOf_219 : decode cX12_offsetOf 219 = .ok (.if_icmp .ge 105, 3) := by decide +kernel
theorem dX12_offsetOf_222 : decode cX12_offsetOf 222 = .ok (.aload_n 0, 1) := by decide +kernel
theorem dX12_offsetOf_223 : decode cX12_offsetOf 223 = .ok (.getfield 37, 3) := by decide +kernel
theorem dX12_offsetOf_226 : decode cX12_offsetOf 226 = .ok (.iload 8, 2) := by decide +kernel
theorem dX12_offsetOf_228 : decode cX12_offsetOf 228 = .ok (.laload, 1) := by decide +kernel
theorem dX12_offsetOf_229 : decode cX12_offsetOf 229 = .ok (.aload_n 0, 1) := by decide +kernel
theorem dX12_offsetOf_230 : decode cX12_offsetOf 230 = .ok (.getfield 37, 3) := by decide +kernel
theorem dX12_offsetOf_233 : decode cX12_offsetOf 233 = .ok (.iload 6, 2) := by decide +kernel
theorem dX12_offsetOf_235 : decode cX12_offsetOf 235 = .ok (.laload, 1) := by decide +kernel
theorem dX12_offsetOf_236 : decode cX12_offsetOf 236 = .ok (.lsub, 1) := by decide +kernel
theorem dX12_offsetOf_237 : decode cX12_offsetOf 237 = .ok (.iload 9, 2) := by decide +kernel
theorem dX12_offsetOf_239 : decode cX12_offsetOf 239 = .ok (.i2l, 1) := by decide +kernel
theorem dX12_offsetOf_240 : decode cX12_offsetOf 240 = .ok (.aload_n 0, 1) := by decide +kernel
theorem dX12_offsetOf_241 : decode cX12_offsetOf 241 = .ok (.getfield 65, 3) := by decide +kernel
theorem dX12_offsetOf_244 : decode cX12_offsetOf 244 = .ok (.i2l, 1) := by decide +kernel
theorem dX12_offsetOf_245 : decode cX12_offsetOf 245 = .ok (.lmul, 1) := by decide +kernel
theorem dX12_offsetOf_246 : decode cX12_offsetOf 246 = .ok (.ladd, 1) := by decide +kernel
theorem dX12_offsetOf_247 : decode cX12_offsetOf 247 = .ok (.lstore 10, 2) := by decide +kernel
theorem dX12_offsetOf_249 : decode cX12_offsetOf 249 = .ok (.iload 5, 2) := by decide +kernel
theorem dX12_offsetOf_251 : decode cX12_offsetOf 251 = .ok (.ifCond .eq 36, 3) := by decide +kernel
theorem dX12_offsetOf_254 : decode cX12_offsetOf 254 = .ok (.lload 10, 2) := by decide +kernel
theorem dX12_offsetOf_256 : decode cX12_offsetOf 256 = .ok (.invokestatic 321, 3) := by decide +kernel
theorem dX12_offsetOf_259 : decode cX12_offsetOf 259 = .ok (.lload_n 3, 1) := by decide +kernel
theorem dX12_offsetOf_260 : decode cX12_offsetOf 260 = .ok (.invokestatic 321, 3) := by decide +kernel
theorem dX12_offsetOf_263 : decode cX12_offsetOf 263 = .ok (.lcmp, 1) := by decide +kernel
theorem dX12_offsetOf_264 : decode cX12_offsetOf 264 = .ok (.ifCond .lt 23, 3) := by decide +kernel
theorem dX12_offsetOf_267 : decode cX12_offsetOf 267 = .ok (.lload 10, 2) := by decide +kernel
theorem dX12_offsetOf_269 : decode cX12_offsetOf 269 = .ok (.invokestatic 321, 3) := by decide +kernel
theorem dX12_offsetOf_272 : decode cX12_offsetOf 272 = .ok (.lload_n 3, 1) := by decide +kernel
theorem dX12_offsetOf_273 : decode cX12_offsetOf 273 = .ok (.invokestatic 321, 3) := by decide +kernel
theorem dX12_offsetOf_276 : decode cX12_offsetOf 276 = .ok (.lcmp, 1) := by decide +kernel
theorem dX12_offsetOf_277 : decode cX12_offsetOf 277 = .ok (.ifCond .ne 14, 3) := by decide +kernel
theorem dX12_offsetOf_280 : decode cX12_offsetOf 280 = .ok (.lload 10, 2) := by decide +kernel
theorem dX12_offsetOf_282 : decode cX12_offsetOf 282 = .ok (.lload_n 3, 1) := by decide +kernel
theorem dX12_offsetOf_283 : decode cX12_offsetOf 283 = .ok (.lcmp, 1) := by decide +kernel
theorem dX12_offsetOf_284 : decode cX12_offsetOf 284 = .ok (.ifCond .ge 7, 3) := by decide +kernel
theorem dX12_offsetOf_287 : decode cX12_offsetOf 287 = .ok (.iconst 1, 1) := by decide +kernel
theorem dX12_offsetOf_288 : decode cX12_offsetOf 288 = .ok (.goto 4, 3) := by decide +kernel
theorem dX12_offsetOf_291 : decode cX12_offsetOf 291 = .ok (.iconst 0, 1) := by decide +kernel
theorem dX12_offsetOf_292 : decode cX12_offsetOf 292 = .ok (.istore 12, 2) := by decide +kernel
theorem dX12_offsetOf_294 : decode cX12_offsetOf 294 = .ok (.iload 12, 2) := by decide +kernel
theorem dX12_offsetOf_296 : decode cX12_offsetOf 296 = .ok (.ifCond .eq 22, 3) := by decide +kernel
theorem dX12_offsetOf_299 : decode cX12_offsetOf 299 = .ok (.iconst 2, 1) := by decide +kernel
theorem dX12_offsetOf_300 : decode cX12_offsetOf 300 = .ok (.aload_n 0, 1) := by decide +kernel
theorem dX12_offsetOf_301 : decode cX12_offsetOf 301 = .ok (.iload_n 1, 1) := by decide +kernel
theorem dX12_offsetOf_302 : decode cX12_offsetOf 302 = .ok (.lload 10, 2) := by decide +kernel
theorem dX12_offsetOf_304 : decode cX12_offsetOf 304 = .ok (.invokevirtual 317, 3) := by decide +kernel
theorem dX12_offsetOf_307 : decode cX12_offsetOf 307 = .ok (.imul, 1) := by decide +kernel
theorem dX12_offsetOf_308 : decode cX12_offsetOf 308 = .ok (.iload_n 2, 1) := by decide +kernel
theorem dX12_offsetOf_309 : decode cX12_offsetOf 309 = .ok (.if_icmp .le 9, 3) := by decide +kernel
theorem dX12_offsetOf_312 : decode cX12_offsetOf 312 = .ok (.iconst 1, 1) := by decide +kernel
theorem dX12_offsetOf_313 : decode cX12_offsetOf 313 = .ok (.istore 5, 2) := by decide +kernel
theorem dX12_offsetOf_315 : decode cX12_offsetOf 315 = .ok (.lload 10, 2) := by decide +kernel
theorem dX12_offsetOf_317 : decode cX12_offsetOf 317 = .ok (.lstore_n 3, 1) := by decide +kernel
theorem dX12_offsetOf_318 : decode cX12_offsetOf 318 = .ok (.iinc 9 2, 3) := by decide +kernel
theorem dX12_offsetOf_321 : decode cX12_offsetOf 321 = .ok (.goto (-105), 3) := by decide +kernel
theorem dX12_offsetOf_324 : decode cX12_offsetOf 324 = .ok (.iinc 8 1, 3) := by decide +kernel
theorem dX12_offsetOf_327 : decode cX12_offsetOf 327 = .ok (.goto (-158), 3) := by decide +kernel
theorem dX12_offsetOf_330 : decode cX12_offsetOf 330 = .ok (.iinc 6 1, 3) := by decide +kernel
theorem dX12_offsetOf_333 : decode cX12_offsetOf 333 = .ok (.goto (-236), 3) := by decide +kernel
theorem dX12_offsetOf_336 : decode cX12_offsetOf 336 = .ok (.lload_n 3, 1) := by decide +kernel
theorem dX12_offsetOf_337 : decode cX12_offsetOf 337 = .ok (.lreturn, 1) := by decide +kernel
theorem dX12_grows_0 : decode cX12_grows 0 = .ok (.iconst 0, 1) := by decide +kernel
theorem dX12_grows_1 : decode cX12_grows 1 = .ok (.istore_n 2, 1) := by decide +kernel
theorem dX12_grows_2 : decode cX12_grows 2 = .ok (.iload_n 2, 1) := by decide +kernel
theorem dX12_grows_3 : decode cX12_grows 3 = .ok (.aload_n 0, 1) := by decide +kernel
theorem dX12_grows_4 : decode cX12_grows 4 = .ok (.getfield 325, 3) := by decide +kernel
theorem dX12_grows_7 : decode cX12_grows 7 = .ok (.if_icmp .ge 25, 3) := by decide +kernel
theorem dX12_grows_10 : decode cX12_grows 10 = .ok (.aload_n 0, 1) := by decide +kernel
theorem dX12_grows_11 : decode cX12_grows 11 = .ok (.getfield 121, 3) := by decide +kernel
theorem dX12_grows_14 : decode cX12_grows 14 = .ok (.iload_n 2, 1) := by decide +kernel
theorem dX12_grows_15 : decode cX12_grows 15 = .ok (.ldc2_w 330, 3) := by decide +kernel
theorem dX12_grows_18 : decode cX12_grows 18 = .ok (.lastore, 1) := by decide +kernel
theorem dX12_grows_19 : decode cX12_grows 19 = .ok (.aload_n 0, 1) := by decide +kernel
theorem dX12_grows_20 : decode cX12_grows 20 = .ok (.getfield 124, 3) := by decide +kernel
theorem dX12_grows_23 : decode cX12_grows 23 = .ok (.iload_n 2, 1) := by decide +kernel
theorem dX12_grows_24 : decode cX12_grows 24 = .ok (.iconst (-1), 1) := by decide +kernel
theorem dX12_grows_25 : decode cX12_grows 25 = .ok (.iastore, 1) := by decide +kernel
theorem dX12_grows_26 : decode cX12_grows 26 = .ok (.iinc 2 1, 3) := by decide +kernel
theorem dX12_grows_29 : decode cX12_grows 29 = .ok (.goto (-27), 3) := by decide +kernel
theorem dX12_grows_32 : decode cX12_grows 32 = .ok (.iconst 1, 1) := by decide +kernel
theorem dX12_grows_33 : decode cX12_grows 33 = .ok (.istore_n 2, 1) := by decide +kernel
theorem dX12_grows_34 : decode cX12_grows 34 = .ok (.iload_n 2, 1) := by decide +kernel
theorem dX12_grows_35 : decode cX12_grows 35 = .ok (.ifCond .eq 222, 3) := by decide +kernel
theorem dX12_grows_38 : decode cX12_grows 38 = .ok (.iconst 0, 1) := by decide +kernel
theorem dX12_grows_39 : decode cX12_grows 39 = .ok (.istore_n 2, 1) := by decide +kernel
theorem dX12_grows_40 : decode cX12_grows 40 = .ok (.iload_n 1, 1) := by decide +kernel
theorem dX12_grows_41 : decode cX12_grows 41 = .ok (.istore_n 3, 1) := by decide +kernel
theorem dX12_grows_42 : decode cX12_grows 42 = .ok (.iload_n 3, 1) := by decide +kernel
theorem dX12_grows_43 : decode cX12_grows 43 = .ok (.aload_n 0, 1) := by decide +kernel
theorem dX12_grows_44 : decode cX12_grows 44 = .ok (.getfield 332, 3) := by decide +kernel
theorem dX12_grows_47 : decode cX12_grows 47 = .ok (.if_icmp .ge 207, 3) := by decide +kernel
theorem dX12_grows_50 : decode cX12_grows 50 = .ok (.aload_n 0, 1) := by decide +kernel
theorem dX12_grows_51 : decode cX12_grows 51 = .ok (.getfield 118, 3) := by decide +kernel
theorem dX12_grows_54 : decode cX12_grows 54 = .ok (.iload_n 3, 1) := by decide +kernel
theorem dX12_grows_55 : decode cX12_grows 55 = .ok (.iaload, 1) := by decide +kernel
theorem dX12_grows_56 : decode cX12_grows 56 = .ok (.ifCond .ge 7, 3) := by decide +kernel
theorem dX12_grows_59 : decode cX12_grows 59 = .ok (.iconst 1, 1) := by decide +kernel
theorem dX12_grows_60 : decode cX12_grows 60 = .ok (.goto 4, 3) := by decide +kernel
theorem dX12_grows_63 : decode cX12_grows 63 = .ok (.iconst 0, 1) := by decide +kernel
theorem dX12_grows_64 : decode cX12_grows 64 = .ok (.istore 4, 2) := by decide +kernel
theorem dX12_grows_66 : decode cX12_grows 66 = .ok (.iload 4, 2) := by decide +kernel
theorem dX12_grows_68 : decode cX12_grows 68 = .ok (.ifCond .ne 24, 3) := by decide +kernel
theorem dX12_grows_71 : decode cX12_grows 71 = .ok (.aload_n 0, 1) := by decide +kernel
theorem dX12_grows_72 : decode cX12_grows 72 = .ok (.getfield 121, 3) := by decide +kernel
theorem dX12_grows_75 : decode cX12_grows 75 = .ok (.aload_n 0, 1) := by decide +kernel
theorem dX12_grows_76 : decode cX12_grows 76 = .ok (.getfield 118, 3) := by decide +kernel
theorem dX12_grows_79 : decode cX12_grows 79 = .ok (.iload_n 3, 1) := by decide +kernel
theorem dX12_grows_80 : decode cX12_grows 80 = .ok (.iaload, 1) := by decide +kernel
theorem dX12_grows_81 : decode cX12_grows 81 = .ok (.laload, 1) := by decide +kernel
theorem dX12_grows_82 : decode cX12_grows 82 = .ok (.ldc2_w 330, 3) := by decide +kernel
theorem dX12_grows_85 : decode cX12_grows 85 = .ok (.lcmp, 1) := by decide +kernel
theorem dX12_grows_86 : decode cX12_grows 86 = .ok (.ifCond .ne 6, 3) := by decide +kernel
theorem dX12_grows_89 : decode cX12_grows 89 = .ok (.goto 159, 3) := by decide +kernel
theorem dX12_grows_92 : decode cX12_grows 92 = .ok (.iload 4, 2) := by decide +kernel
theorem dX12_grows_94 : decode cX12_grows 94 = .ok (.ifCond .eq 7, 3) := by decide +kernel
theorem dX12_grows_97 : decode cX12_grows 97 = .ok (.lconst 0, 1) := by decide +kernel
theorem dX12_grows_98 : decode cX12_grows 98 = .ok (.goto 31, 3) := by decide +kernel
theorem dX12_grows_101 : decode cX12_grows 101 = .ok (.aload_n 0, 1) := by decide +kernel
theorem dX12_grows_102 : decode cX12_grows 102 = .ok (.getfield 121, 3) := by decide +kernel
theorem dX12_grows_105 : decode cX12_grows 105 = .ok (.aload_n 0, 1) := by decide +kernel
theorem dX12_grows_106 : decode cX12_grows 106 = .ok (.getfield 118, 3) := by decide +kernel
theorem dX12_grows_109 : decode cX12_grows 109 = .ok (.iload_n 3, 1) := by decide +kernel
theorem dX12_grows_110 : decode cX12_grows 110 = .ok (.iaload, 1) := by decide +kernel
theorem dX12_grows_111 : decode cX12_grows 111 = .ok (.laload, 1) := by decide +kernel
theorem dX12_grows_112 : decode cX12_grows 112 = .ok (.aload_n 0, 1) := by decide +kernel
theorem dX12_grows_113 : decode cX12_grows 113 = .ok (.getfield 108, 3) := by decide +kernel
theorem dX12_grows_116 : decode cX12_grows 116 = .ok (.bipush 16, 2) := by decide +kernel
theorem dX12_grows_118 : decode cX12_grows 118 = .ok (.iload_n 3, 1) := by decide +kernel
theorem dX12_grows_119 : decode cX12_grows 119 = .ok (.imul, 1) := by decide +kernel
theorem dX12_grows_120 : decode cX12_grows 120 = .ok (.aload_n 0, 1) := by decide +kernel
theorem dX12_grows_121 : decode cX12_grows 121 = .ok (.getfield 118, 3) := by decide +kernel
theorem dX12_grows_124 : decode cX12_grows 124 = .ok (.iload_n 3, 1) := by decide +kernel
theorem dX12_grows_125 : decode cX12_grows 125 = .ok (.iaload, 1) := by decide +kernel
theorem dX12_grows_126 : decode cX12_grows 126 = .ok (.iadd, 1) := by decide +kernel
theorem dX12_grows_127 : decode cX12_grows 127 = .ok (.laload, 1) := by decide +kernel
theorem dX12_grows_128 : decode cX12_grows 128 = .ok (.lsub, 1) := by decide +kernel
theorem dX12_grows_129 : decode cX12_grows 129 = .ok (.lstore 5, 2) := by decide +kernel
theorem dX12_grows_131 : decode cX12_grows 131 = .ok (.iconst 0, 1) := by decide +kernel
theorem dX12_grows_132 : decode cX12_grows 132 = .ok (.istore 7, 2) := by decide +kernel
theorem dX12_grows_134 : decode cX12_grows 134 = .ok (.iload 7, 2) := by decide +kernel
theorem dX12_grows_136 : decode cX12_grows 136 = .ok (.aload_n 0, 1) := by decide +kernel
theorem dX12_grows_137 : decode cX12_grows 137 = .ok (.getfield 325, 3) := by decide +kernel
theorem dX12_grows_140 : decode cX12_grows 140 = .ok (.if_icmp .ge 108, 3) := by decide +kernel
theorem dX12_grows_143 : decode cX12_grows 143 = .ok (.aload_n 0, 1) := by decide +kernel
theorem dX12_grows_144 : decode cX12_grows 144 = .ok (.getfield 108, 3) := by decide +kernel
theorem dX12_grows_147 : decode cX12_grows 147 = .ok (.bipush 16, 2) := by decide +kernel
theorem dX12_grows_149 : decode cX12_grows 149 = .ok (.iload_n 3, 1) := by decide +kernel
theorem dX12_grows_150 : decode cX12_grows 150 = .ok (.imul, 1) := by decide +kernel
theorem dX12_grows_151 : decode cX12_grows 151 = .ok (.iload 7, 2) := by decide +kernel
theorem dX12_grows_153 : decode cX12_grows 153 = .ok (.iadd, 1) := by decide +kernel
theorem dX12_grows_154 : decode cX12_grows 154 = .ok (.laload, 1) := by decide +kernel
theorem dX12_grows_155 : decode cX12_grows 155 = .ok (.lconst 0, 1) := by decide +kernel
theorem dX12_grows_156 : decode cX12_grows 156 = .ok (.lcmp, 1) := by decide +kernel
theorem dX12_grows_157 : decode cX12_grows 157 = .ok (.ifCond .lt 85, 3) := by decide +kernel
theorem dX12_grows_160 : decode cX12_grows 160 = .ok (.aload_n 0, 1) := by decide +kernel
theorem dX12_grows_161 : decode cX12_grows 161 = .ok (.getfield 111, 3) := by decide +kernel
theorem dX12_grows_164 : decode cX12_grows 164 = .ok (.iload 7, 2) := by decide +kernel
theorem dX12_grows_166 : decode cX12_grows 166 = .ok (.baload, 1) := by decide +kernel
theorem dX12_grows_167 : decode cX12_grows 167 = .ok (.ifCond .ne 75, 3) := by decide +kernel
theorem dX12_grows_170 : decode cX12_grows 170 = .ok (.aload_n 0, 1) := by decide +kernel
theorem dX12_grows_171 : decode cX12_grows 171 = .ok (.getfield 118, 3) := by decide +kernel
theorem dX12_grows_174 : decode cX12_grows 174 = .ok (.iload_n 3, 1) := by decide +kernel
theorem dX12_grows_175 : decode cX12_grows 175 = .ok (.iaload, 1) := by decide +kernel
theorem dX12_grows_176 : decode cX12_grows 176 = .ok (.iload 7, 2) := by decide +kernel
theorem dX12_grows_178 : decode cX12_grows 178 = .ok (.if_icmp .eq 64, 3) := by decide +kernel
theorem dX12_grows_181 : decode cX12_grows 181 = .ok (.lload 5, 2) := by decide +kernel
theorem dX12_grows_183 : decode cX12_grows 183 = .ok (.aload_n 0, 1) := by decide +kernel
theorem dX12_grows_184 : decode cX12_grows 184 = .ok (.getfield 108, 3) := by decide +kernel
theorem dX12_grows_187 : decode cX12_grows 187 = .ok (.bipush 16, 2) := by decide +kernel
theorem dX12_grows_189 : decode cX12_grows 189 = .ok (.iload_n 3, 1) := by decide +kernel
theorem dX12_grows_190 : decode cX12_grows 190 = .ok (.imul, 1) := by decide +kernel
theorem dX12_grows_191 : decode cX12_grows 191 = .ok (.iload 7, 2) := by decide +kernel
theorem dX12_grows_193 : decode cX12_grows 193 = .ok (.iadd, 1) := by decide +kernel
theorem dX12_grows_194 : decode cX12_grows 194 = .ok (.laload, 1) := by decide +kernel
theorem dX12_grows_195 : decode cX12_grows 195 = .ok (.ladd, 1) := by decide +kernel
theorem dX12_grows_196 : decode cX12_grows 196 = .ok (.aload_n 0, 1) := by decide +kernel
theorem dX12_grows_197 : decode cX12_grows 197 = .ok (.getfield 121, 3) := by decide +kernel
theorem dX12_grows_200 : decode cX12_grows 200 = .ok (.iload 7, 2) := by decide +kernel
theorem dX12_grows_202 : decode cX12_grows 202 = .ok (.laload, 1) := by decide +kernel
theorem dX12_grows_203 : decode cX12_grows 203 = .ok (.lcmp, 1) := by decide +kernel
theorem dX12_grows_204 : decode cX12_grows 204 = .ok (.ifCond .lt 6, 3) := by decide +kernel
theorem dX12_grows_207 : decode cX12_grows 207 = .ok (.goto 35, 3) := by decide +kernel
theorem dX12_grows_210 : decode cX12_grows 210 = .ok (.aload_n 0, 1) := by decide +kernel
theorem dX12_grows_211 : decode cX12_grows 211 = .ok (.getfield 121, 3) := by decide +kernel
theorem dX12_grows_214 : decode cX12_grows 214 = .ok (.iload 7, 2) := by decide +kernel
theorem dX12_grows_216 : decode cX12_grows 216 = .ok (.lload 5, 2) := by decide +kernel
theorem dX12_grows_218 : decode cX12_grows 218 = .ok (.aload_n 0, 1) := by decide +kernel
theorem dX12_grows_219 : decode cX12_grows 219 = .ok (.getfield 108, 3) := by decide +kernel
theorem dX12_grows_222 : decode cX12_grows 222 = .ok (.bipush 16, 2) := by decide +kernel
theorem dX12_grows_224 : decode cX12_grows 224 = .ok (.iload_n 3, 1) := by decide +kernel
theorem dX12_grows_225 : decode cX12_grows 225 = .ok (.imul, 1) := by decide +kernel
theorem dX12_grows_226 : decode cX12_grows 226 = .ok (.iload 7, 2) := by decide +kernel
theorem dX12_grows_228 : decode cX12_grows 228 = .ok (.iadd, 1) := by decide +kernel
theorem dX12_grows_229 : decode cX12_grows 229 = .ok (.laload, 1) := by decide +kernel
theorem dX12_grows_230 : decode cX12_grows 230 = .ok (.ladd, 1) := by decide +kernel
theorem dX12_grows_231 : decode cX12_grows 231 = .ok (.lastore, 1) := by decide +kernel
theorem dX12_grows_232 : decode cX12_grows 232 = .ok (.aload_n 0, 1) := by decide +kernel
theorem dX12_grows_233 : decode cX12_grows 233 = .ok (.getfield 124, 3) := by decide +kernel
theorem dX12_grows_236 : decode cX12_grows 236 = .ok (.iload 7, 2) := by decide +kernel
theorem dX12_grows_238 : decode cX12_grows 238 = .ok (.iload_n 3, 1) := by decide +kernel
theorem dX12_grows_239 : decode cX12_grows 239 = .ok (.iastore, 1) := by decide +kernel
theorem dX12_grows_240 : decode cX12_grows 240 = .ok (.iconst 1, 1) := by decide +kernel
theorem dX12_grows_241 : decode cX12_grows 241 = .ok (.istore_n 2, 1) := by decide +kernel
theorem dX12_grows_242 : decode cX12_grows 242 = .ok (.iinc 7 1, 3) := by decide +kernel
theorem dX12_grows_245 : decode cX12_grows 245 = .ok (.goto (-111), 3) := by decide +kernel
theorem dX12_grows_248 : decode cX12_grows 248 = .ok (.iinc 3 1, 3) := by decide +kernel
theorem dX12_grows_251 : decode cX12_grows 251 = .ok (.goto (-209), 3) := by decide +kernel
theorem dX12_grows_254 : decode cX12_grows 254 = .ok (.goto (-220), 3) := by decide +kernel
theorem dX12_grows_257 : decode cX12_grows 257 = .ok (.iconst (-1), 1) := by decide +kernel
theorem dX12_grows_258 : decode cX12_grows 258 = .ok (.istore_n 3, 1) := by decide +kernel
theorem dX12_grows_259 : decode cX12_grows 259 = .ok (.iconst 0, 1) := by decide +kernel
theorem dX12_grows_260 : decode cX12_grows 260 = .ok (.istore 4, 2) := by decide +kernel
theorem dX12_grows_262 : decode cX12_grows 262 = .ok (.iload 4, 2) := by decide +kernel
theorem dX12_grows_264 : decode cX12_grows 264 = .ok (.aload_n 0, 1) := by decide +kernel
theorem dX12_grows_265 : decode cX12_grows 265 = .ok (.getfield 325, 3) := by decide +kernel
theorem dX12_grows_268 : decode cX12_grows 268 = .ok (.if_icmp .ge 57, 3) := by decide +kernel
theorem dX12_grows_271 : decode cX12_grows 271 = .ok (.aload_n 0, 1) := by decide +kernel
theorem dX12_grows_272 : decode cX12_grows 272 = .ok (.getfield 115, 3) := by decide +kernel
theorem dX12_grows_275 : decode cX12_grows 275 = .ok (.iload 4, 2) := by decide +kernel
theorem dX12_grows_277 : decode cX12_grows 277 = .ok (.iaload, 1) := by decide +kernel
theorem dX12_grows_278 : decode cX12_grows 278 = .ok (.ifCond .ge 41, 3) := by decide +kernel
theorem dX12_grows_281 : decode cX12_grows 281 = .ok (.aload_n 0, 1) := by decide +kernel
theorem dX12_grows_282 : decode cX12_grows 282 = .ok (.getfield 121, 3) := by decide +kernel
theorem dX12_grows_285 : decode cX12_grows 285 = .ok (.iload 4, 2) := by decide +kernel
theorem dX12_grows_287 : decode cX12_grows 287 = .ok (.laload, 1) := by decide +kernel
theorem dX12_grows_288 : decode cX12_grows 288 = .ok (.ldc2_w 330, 3) := by decide +kernel
theorem dX12_grows_291 : decode cX12_grows 291 = .ok (.lcmp, 1) := by decide +kernel
theorem dX12_grows_292 : decode cX12_grows 292 = .ok (.ifCond .ge 27, 3) := by decide +kernel
theorem dX12_grows_295 : decode cX12_grows 295 = .ok (.iload_n 3, 1) := by decide +kernel
theorem dX12_grows_296 : decode cX12_grows 296 = .ok (.ifCond .lt 20, 3) := by decide +kernel
theorem dX12_grows_299 : decode cX12_grows 299 = .ok (.aload_n 0, 1) := by decide +kernel
theorem dX12_grows_300 : decode cX12_grows 300 = .ok (.getfield 121, 3) := by decide +kernel
theorem dX12_grows_303 : decode cX12_grows 303 = .ok (.iload 4, 2) := by decide +kernel
theorem dX12_grows_305 : decode cX12_grows 305 = .ok (.laload, 1) := by decide +kernel
theorem dX12_grows_306 : decode cX12_grows 306 = .ok (.aload_n 0, 1) := by decide +kernel
theorem dX12_grows_307 : decode cX12_grows 307 = .ok (.getfield 121, 3) := by decide +kernel
theorem dX12_grows_310 : decode cX12_grows 310 = .ok (.iload_n 3, 1) := by decide +kernel
theorem dX12_grows_311 : decode cX12_grows 311 = .ok (.laload, 1) := by decide +kernel
theorem dX12_grows_312 : decode cX12_grows 312 = .ok (.lcmp, 1) := by decide +kernel
theorem dX12_grows_313 : decode cX12_grows 313 = .ok (.ifCond .ge 6, 3) := by decide +kernel
theorem dX12_grows_316 : decode cX12_grows 316 = .ok (.iload 4, 2) := by decide +kernel
theorem dX12_grows_318 : decode cX12_grows 318 = .ok (.istore_n 3, 1) := by decide +kernel
theorem dX12_grows_319 : decode cX12_grows 319 = .ok (.iinc 4 1, 3) := by decide +kernel
theorem dX12_grows_322 : decode cX12_grows 322 = .ok (.goto (-60), 3) := by decide +kernel
theorem dX12_grows_325 : decode cX12_grows 325 = .ok (.iload_n 3, 1) := by decide +kernel
theorem dX12_grows_326 : decode cX12_grows 326 = .ok (.ifCond .ge 5, 3) := by decide +kernel
theorem dX12_grows_329 : decode cX12_grows 329 = .ok (.iconst 0, 1) := by decide +kernel
theorem dX12_grows_330 : decode cX12_grows 330 = .ok (.ireturn, 1) := by decide +kernel
theorem dX12_grows_331 : decode cX12_grows 331 = .ok (.aload_n 0, 1) := by decide +kernel
theorem dX12_grows_332 : decode cX12_grows 332 = .ok (.dup, 1) := by decide +kernel
theorem dX12_grows_333 : decode cX12_grows 333 = .ok (.getfield 335, 3) := by decide +kernel
theorem dX12_grows_336 : decode cX12_grows 336 = .ok (.aload_n 0, 1) := by decide +kernel
theorem dX12_grows_337 : decode cX12_grows 337 = .ok (.getfield 121, 3) := by decide +kernel
theorem dX12_grows_340 : decode cX12_grows 340 = .ok (.iload_n 3, 1) := by decide +kernel
theorem dX12_grows_341 : decode cX12_grows 341 = .ok (.laload, 1) := by decide +kernel
theorem dX12_grows_342 : decode cX12_grows 342 = .ok (.ladd, 1) := by decide +kernel
theorem dX12_grows_343 : decode cX12_grows 343 = .ok (.putfield 335, 3) := by decide +kernel
theorem dX12_grows_346 : decode cX12_grows 346 = .ok (.aload_n 0, 1) := by decide +kernel
theorem dX12_grows_347 : decode cX12_grows 347 = .ok (.dup, 1) := by decide +kernel
theorem dX12_grows_348 : decode cX12_grows 348 = .ok (.getfield 338, 3) := by decide +kernel
theorem dX12_grows_351 : decode cX12_grows 351 = .ok (.iconst 1, 1) := by decide +kernel
theorem dX12_grows_352 : decode cX12_grows 352 = .ok (.iadd, 1) := by decide +kernel
theorem dX12_grows_353 : decode cX12_grows 353 = .ok (.putfield 338, 3) := by decide +kernel
theorem dX12_grows_356 : decode cX12_grows 356 = .ok (.iload_n 3, 1) := by decide +kernel
theorem dX12_grows_357 : decode cX12_grows 357 = .ok (.istore 4, 2) := by decide +kernel
theorem dX12_grows_359 : decode cX12_grows 359 = .ok (.iload 4, 2) := by decide +kernel
theorem dX12_grows_361 : decode cX12_grows 361 = .ok (.ifCond .lt 46, 3) := by decide +kernel
theorem dX12_grows_364 : decode cX12_grows 364 = .ok (.aload_n 0, 1) := by decide +kernel
theorem dX12_grows_365 : decode cX12_grows 365 = .ok (.getfield 124, 3) := by decide +kernel
theorem dX12_grows_368 : decode cX12_grows 368 = .ok (.iload 4, 2) := by decide +kernel
theorem dX12_grows_370 : decode cX12_grows 370 = .ok (.iaload, 1) := by decide +kernel
theorem dX12_grows_371 : decode cX12_grows 371 = .ok (.istore 5, 2) := by decide +kernel
theorem dX12_grows_373 : decode cX12_grows 373 = .ok (.aload_n 0, 1) := by decide +kernel
theorem dX12_grows_374 : decode cX12_grows 374 = .ok (.getfield 118, 3) := by decide +kernel
theorem dX12_grows_377 : decode cX12_grows 377 = .ok (.iload 5, 2) := by decide +kernel
theorem dX12_grows_379 : decode cX12_grows 379 = .ok (.iaload, 1) := by decide +kernel
theorem dX12_grows_380 : decode cX12_grows 380 = .ok (.istore 6, 2) := by decide +kernel
theorem dX12_grows_382 : decode cX12_grows 382 = .ok (.aload_n 0, 1) := by decide +kernel
theorem dX12_grows_383 : decode cX12_grows 383 = .ok (.getfield 118, 3) := by decide +kernel
theorem dX12_grows_386 : decode cX12_grows 386 = .ok (.iload 5, 2) := by decide +kernel
theorem dX12_grows_388 : decode cX12_grows 388 = .ok (.iload 4, 2) := by decide +kernel
theorem dX12_grows_390 : decode cX12_grows 390 = .ok (.iastore, 1) := by decide +kernel
theorem dX12_grows_391 : decode cX12_grows 391 = .ok (.aload_n 0, 1) := by decide +kernel
theorem dX12_grows_392 : decode cX12_grows 392 = .ok (.getfield 115, 3) := by decide +kernel
theorem dX12_grows_395 : decode cX12_grows 395 = .ok (.iload 4, 2) := by decide +kernel
theorem dX12_grows_397 : decode cX12_grows 397 = .ok (.iload 5, 2) := by decide +kernel
theorem dX12_grows_399 : decode cX12_grows 399 = .ok (.iastore, 1) := by decide +kernel
theorem dX12_grows_400 : decode cX12_grows 400 = .ok (.iload 6, 2) := by decide +kernel
theorem dX12_grows_402 : decode cX12_grows 402 = .ok (.istore 4, 2) := by decide +kernel
theorem dX12_grows_404 : decode cX12_grows 404 = .ok (.goto (-45), 3) := by decide +kernel
theorem dX12_grows_407 : decode cX12_grows 407 = .ok (.iconst 1, 1) := by decide +kernel
theorem dX12_grows_408 : decode cX12_grows 408 = .ok (.ireturn, 1) := by decide +kernel
theorem dX12_solve_0 : decode cX12_solve 0 = .ok (.aload_n 0, 1) := by decide +kernel
theorem dX12_solve_1 : decode cX12_solve 1 = .ok (.iconst 0, 1) := by decide +kernel
theorem dX12_solve_2 : decode cX12_solve 2 = .ok (.putfield 338, 3) := by decide +kernel
theorem dX12_solve_5 : decode cX12_solve 5 = .ok (.aload_n 0, 1) := by decide +kernel
theorem dX12_solve_6 : decode cX12_solve 6 = .ok (.lconst 0, 1) := by decide +kernel
theorem dX12_solve_7 : decode cX12_solve 7 = .ok (.putfield 335, 3) := by decide +kernel
theorem dX12_solve_10 : decode cX12_solve 10 = .ok (.iconst 0, 1) := by decide +kernel
theorem dX12_solve_11 : decode cX12_solve 11 = .ok (.istore_n 2, 1) := by decide +kernel
theorem dX12_solve_12 : decode cX12_solve 12 = .ok (.iload_n 2, 1) := by decide +kernel
theorem dX12_solve_13 : decode cX12_solve 13 = .ok (.bipush 16, 2) := by decide +kernel
theorem dX12_solve_15 : decode cX12_solve 15 = .ok (.if_icmp .ge 23, 3) := by decide +kernel
theorem dX12_solve_18 : decode cX12_solve 18 = .ok (.aload_n 0, 1) := by decide +kernel
theorem dX12_solve_19 : decode cX12_solve 19 = .ok (.getfield 115, 3) := by decide +kernel
theorem dX12_solve_22 : decode cX12_solve 22 = .ok (.iload_n 2, 1) := by decide +kernel
theorem dX12_solve_23 : decode cX12_solve 23 = .ok (.iconst (-1), 1) := by decide +kernel
theorem dX12_solve_24 : decode cX12_solve 24 = .ok (.iastore, 1) := by decide +kernel
theorem dX12_solve_25 : decode cX12_solve 25 = .ok (.aload_n 0, 1) := by decide +kernel
theorem dX12_solve_26 : decode cX12_solve 26 = .ok (.getfield 118, 3) := by decide +kernel
theorem dX12_solve_29 : decode cX12_solve 29 = .ok (.iload_n 2, 1) := by decide +kernel
theorem dX12_solve_30 : decode cX12_solve 30 = .ok (.iconst (-1), 1) := by decide +kernel
theorem dX12_solve_31 : decode cX12_solve 31 = .ok (.iastore, 1) := by decide +kernel
theorem dX12_solve_32 : decode cX12_solve 32 = .ok (.iinc 2 1, 3) := by decide +kernel
theorem dX12_solve_35 : decode cX12_solve 35 = .ok (.goto (-23), 3) := by decide +kernel
theorem dX12_solve_38 : decode cX12_solve 38 = .ok (.iconst 1, 1) := by decide +kernel
theorem dX12_solve_39 : decode cX12_solve 39 = .ok (.istore_n 2, 1) := by decide +kernel
theorem dX12_solve_40 : decode cX12_solve 40 = .ok (.iload_n 2, 1) := by decide +kernel
theorem dX12_solve_41 : decode cX12_solve 41 = .ok (.ifCond .eq 12, 3) := by decide +kernel
theorem dX12_solve_44 : decode cX12_solve 44 = .ok (.aload_n 0, 1) := by decide +kernel
theorem dX12_solve_45 : decode cX12_solve 45 = .ok (.iload_n 1, 1) := by decide +kernel
theorem dX12_solve_46 : decode cX12_solve 46 = .ok (.invokevirtual 341, 3) := by decide +kernel
theorem dX12_solve_49 : decode cX12_solve 49 = .ok (.istore_n 2, 1) := by decide +kernel
theorem dX12_solve_50 : decode cX12_solve 50 = .ok (.goto (-10), 3) := by decide +kernel
theorem dX12_solve_53 : decode cX12_solve 53 = .ok (.return_, 1) := by decide +kernel
theorem dX12_lay_0 : decode cX12_lay 0 = .ok (.aload_n 0, 1) := by decide +kernel
theorem dX12_lay_1 : decode cX12_lay 1 = .ok (.iconst 0, 1) := by decide +kernel
theorem dX12_lay_2 : decode cX12_lay 2 = .ok (.putfield 332, 3) := by decide +kernel
theorem dX12_lay_5 : decode cX12_lay 5 = .ok (.aload_n 0, 1) := by decide +kernel
theorem dX12_lay_6 : decode cX12_lay 6 = .ok (.iconst 0, 1) := by decide +kernel
theorem dX12_lay_7 : decode cX12_lay 7 = .ok (.putfield 325, 3) := by decide +kernel
theorem dX12_lay_10 : decode cX12_lay 10 = .ok (.iconst 0, 1) := by decide +kernel
theorem dX12_lay_11 : decode cX12_lay 11 = .ok (.istore 4, 2) := by decide +kernel
theorem dX12_lay_13 : decode cX12_lay 13 = .ok (.iload 4, 2) := by decide +kernel
theorem dX12_lay_15 : decode cX12_lay 15 = .ok (.bipush 16, 2) := by decide +kernel
theorem dX12_lay_17 : decode cX12_lay 17 = .ok (.if_icmp .ge 127, 3) := by decide +kernel
theorem dX12_lay_20 : decode cX12_lay 20 = .ok (.bipush 48, 2) := by decide +kernel
theorem dX12_lay_22 : decode cX12_lay 22 = .ok (.iload_n 1, 1) := by decide +kernel
