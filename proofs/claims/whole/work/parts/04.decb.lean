theorem dX5_readContact_100 : decode cX5_readContact 100 = .ok (.iconst 0, 1) := by decide +kernel
theorem dX5_readContact_101 : decode cX5_readContact 101 = .ok (.ireturn, 1) := by decide +kernel
theorem dX5_readContact_102 : decode cX5_readContact 102 = .ok (.aload_n 0, 1) := by decide +kernel
theorem dX5_readContact_103 : decode cX5_readContact 103 = .ok (.getfield 31, 3) := by decide +kernel
theorem dX5_readContact_106 : decode cX5_readContact 106 = .ok (.invokevirtual 70, 3) := by decide +kernel
theorem dX5_readContact_109 : decode cX5_readContact 109 = .ok (.ifCond .ne 5, 3) := by decide +kernel
theorem dX5_readContact_112 : decode cX5_readContact 112 = .ok (.iconst 1, 1) := by decide +kernel
theorem dX5_readContact_113 : decode cX5_readContact 113 = .ok (.ireturn, 1) := by decide +kernel
theorem dX5_readContact_114 : decode cX5_readContact 114 = .ok (.aload_n 0, 1) := by decide +kernel
theorem dX5_readContact_115 : decode cX5_readContact 115 = .ok (.getfield 12, 3) := by decide +kernel
theorem dX5_readContact_118 : decode cX5_readContact 118 = .ok (.aload_n 0, 1) := by decide +kernel
theorem dX5_readContact_119 : decode cX5_readContact 119 = .ok (.getfield 31, 3) := by decide +kernel
theorem dX5_readContact_122 : decode cX5_readContact 122 = .ok (.iconst 5, 1) := by decide +kernel
theorem dX5_readContact_123 : decode cX5_readContact 123 = .ok (.invokevirtual 109, 3) := by decide +kernel
theorem dX5_readContact_126 : decode cX5_readContact 126 = .ok (.l2i, 1) := by decide +kernel
theorem dX5_readContact_127 : decode cX5_readContact 127 = .ok (.putfield 95, 3) := by decide +kernel
theorem dX5_readContact_130 : decode cX5_readContact 130 = .ok (.aload_n 0, 1) := by decide +kernel
theorem dX5_readContact_131 : decode cX5_readContact 131 = .ok (.getfield 12, 3) := by decide +kernel
theorem dX5_readContact_134 : decode cX5_readContact 134 = .ok (.getfield 95, 3) := by decide +kernel
theorem dX5_readContact_137 : decode cX5_readContact 137 = .ok (.iconst (-1), 1) := by decide +kernel
theorem dX5_readContact_138 : decode cX5_readContact 138 = .ok (.if_icmp .eq 17, 3) := by decide +kernel
theorem dX5_readContact_141 : decode cX5_readContact 141 = .ok (.aload_n 0, 1) := by decide +kernel
theorem dX5_readContact_142 : decode cX5_readContact 142 = .ok (.getfield 31, 3) := by decide +kernel
theorem dX5_readContact_145 : decode cX5_readContact 145 = .ok (.invokevirtual 70, 3) := by decide +kernel
theorem dX5_readContact_148 : decode cX5_readContact 148 = .ok (.ifCond .ne 7, 3) := by decide +kernel
theorem dX5_readContact_151 : decode cX5_readContact 151 = .ok (.iconst 1, 1) := by decide +kernel
theorem dX5_readContact_152 : decode cX5_readContact 152 = .ok (.goto 4, 3) := by decide +kernel
theorem dX5_readContact_155 : decode cX5_readContact 155 = .ok (.iconst 0, 1) := by decide +kernel
theorem dX5_readContact_156 : decode cX5_readContact 156 = .ok (.ireturn, 1) := by decide +kernel
theorem dX5_readMoment_0 : decode cX5_readMoment 0 = .ok (.aload_n 0, 1) := by decide +kernel
theorem dX5_readMoment_1 : decode cX5_readMoment 1 = .ok (.getfield 31, 3) := by decide +kernel
theorem dX5_readMoment_4 : decode cX5_readMoment 4 = .ok (.invokevirtual 70, 3) := by decide +kernel
theorem dX5_readMoment_7 : decode cX5_readMoment 7 = .ok (.pop, 1) := by decide +kernel
theorem dX5_readMoment_8 : decode cX5_readMoment 8 = .ok (.aload_n 0, 1) := by decide +kernel
theorem dX5_readMoment_9 : decode cX5_readMoment 9 = .ok (.getfield 12, 3) := by decide +kernel
theorem dX5_readMoment_12 : decode cX5_readMoment 12 = .ok (.aload_n 0, 1) := by decide +kernel
theorem dX5_readMoment_13 : decode cX5_readMoment 13 = .ok (.getfield 31, 3) := by decide +kernel
theorem dX5_readMoment_16 : decode cX5_readMoment 16 = .ok (.bipush 10, 2) := by decide +kernel
theorem dX5_readMoment_18 : decode cX5_readMoment 18 = .ok (.invokevirtual 109, 3) := by decide +kernel
theorem dX5_readMoment_21 : decode cX5_readMoment 21 = .ok (.putfield 113, 3) := by decide +kernel
theorem dX5_readMoment_24 : decode cX5_readMoment 24 = .ok (.aload_n 0, 1) := by decide +kernel
theorem dX5_readMoment_25 : decode cX5_readMoment 25 = .ok (.getfield 12, 3) := by decide +kernel
theorem dX5_readMoment_28 : decode cX5_readMoment 28 = .ok (.getfield 113, 3) := by decide +kernel
theorem dX5_readMoment_31 : decode cX5_readMoment 31 = .ok (.ldc2_w 116, 3) := by decide +kernel
theorem dX5_readMoment_34 : decode cX5_readMoment 34 = .ok (.lcmp, 1) := by decide +kernel
theorem dX5_readMoment_35 : decode cX5_readMoment 35 = .ok (.ifCond .eq 7, 3) := by decide +kernel
theorem dX5_readMoment_38 : decode cX5_readMoment 38 = .ok (.iconst 1, 1) := by decide +kernel
theorem dX5_readMoment_39 : decode cX5_readMoment 39 = .ok (.goto 4, 3) := by decide +kernel
theorem dX5_readMoment_42 : decode cX5_readMoment 42 = .ok (.iconst 0, 1) := by decide +kernel
theorem dX5_readMoment_43 : decode cX5_readMoment 43 = .ok (.ireturn, 1) := by decide +kernel
theorem dX5_readRest_0 : decode cX5_readRest 0 = .ok (.aload_n 0, 1) := by decide +kernel
theorem dX5_readRest_1 : decode cX5_readRest 1 = .ok (.invokevirtual 98, 3) := by decide +kernel
theorem dX5_readRest_4 : decode cX5_readRest 4 = .ok (.ifCond .ne 5, 3) := by decide +kernel
theorem dX5_readRest_7 : decode cX5_readRest 7 = .ok (.iconst 0, 1) := by decide +kernel
theorem dX5_readRest_8 : decode cX5_readRest 8 = .ok (.ireturn, 1) := by decide +kernel
theorem dX5_readRest_9 : decode cX5_readRest 9 = .ok (.aload_n 0, 1) := by decide +kernel
theorem dX5_readRest_10 : decode cX5_readRest 10 = .ok (.getfield 31, 3) := by decide +kernel
theorem dX5_readRest_13 : decode cX5_readRest 13 = .ok (.invokevirtual 70, 3) := by decide +kernel
theorem dX5_readRest_16 : decode cX5_readRest 16 = .ok (.pop, 1) := by decide +kernel
theorem dX5_readRest_17 : decode cX5_readRest 17 = .ok (.aload_n 0, 1) := by decide +kernel
theorem dX5_readRest_18 : decode cX5_readRest 18 = .ok (.getfield 12, 3) := by decide +kernel
theorem dX5_readRest_21 : decode cX5_readRest 21 = .ok (.aload_n 0, 1) := by decide +kernel
theorem dX5_readRest_22 : decode cX5_readRest 22 = .ok (.getfield 31, 3) := by decide +kernel
theorem dX5_readRest_25 : decode cX5_readRest 25 = .ok (.bipush 10, 2) := by decide +kernel
theorem dX5_readRest_27 : decode cX5_readRest 27 = .ok (.invokevirtual 109, 3) := by decide +kernel
theorem dX5_readRest_30 : decode cX5_readRest 30 = .ok (.putfield 118, 3) := by decide +kernel
theorem dX5_readRest_33 : decode cX5_readRest 33 = .ok (.aload_n 0, 1) := by decide +kernel
theorem dX5_readRest_34 : decode cX5_readRest 34 = .ok (.getfield 12, 3) := by decide +kernel
theorem dX5_readRest_37 : decode cX5_readRest 37 = .ok (.getfield 118, 3) := by decide +kernel
theorem dX5_readRest_40 : decode cX5_readRest 40 = .ok (.ldc2_w 116, 3) := by decide +kernel
theorem dX5_readRest_43 : decode cX5_readRest 43 = .ok (.lcmp, 1) := by decide +kernel
theorem dX5_readRest_44 : decode cX5_readRest 44 = .ok (.ifCond .eq 17, 3) := by decide +kernel
theorem dX5_readRest_47 : decode cX5_readRest 47 = .ok (.aload_n 0, 1) := by decide +kernel
theorem dX5_readRest_48 : decode cX5_readRest 48 = .ok (.getfield 31, 3) := by decide +kernel
theorem dX5_readRest_51 : decode cX5_readRest 51 = .ok (.invokevirtual 70, 3) := by decide +kernel
theorem dX5_readRest_54 : decode cX5_readRest 54 = .ok (.ifCond .ne 7, 3) := by decide +kernel
theorem dX5_readRest_57 : decode cX5_readRest 57 = .ok (.iconst 1, 1) := by decide +kernel
theorem dX5_readRest_58 : decode cX5_readRest 58 = .ok (.goto 4, 3) := by decide +kernel
theorem dX5_readRest_61 : decode cX5_readRest 61 = .ok (.iconst 0, 1) := by decide +kernel
theorem dX5_readRest_62 : decode cX5_readRest 62 = .ok (.ireturn, 1) := by decide +kernel
theorem dX6_init_0 : decode cX6_init 0 = .ok (.aload_n 0, 1) := by decide +kernel
theorem dX6_init_1 : decode cX6_init 1 = .ok (.invokespecial 3, 3) := by decide +kernel
theorem dX6_init_4 : decode cX6_init 4 = .ok (.aload_n 0, 1) := by decide +kernel
theorem dX6_init_5 : decode cX6_init 5 = .ok (.bipush 16, 2) := by decide +kernel
theorem dX6_init_7 : decode cX6_init 7 = .ok (.bipush 16, 2) := by decide +kernel
theorem dX6_init_9 : decode cX6_init 9 = .ok (.multianewarray 9 2, 4) := by decide +kernel
theorem dX6_init_13 : decode cX6_init 13 = .ok (.putfield 11, 3) := by decide +kernel
theorem dX6_init_16 : decode cX6_init 16 = .ok (.aload_n 0, 1) := by decide +kernel
theorem dX6_init_17 : decode cX6_init 17 = .ok (.bipush 17, 2) := by decide +kernel
theorem dX6_init_19 : decode cX6_init 19 = .ok (.bipush 17, 2) := by decide +kernel
theorem dX6_init_21 : decode cX6_init 21 = .ok (.multianewarray 9 2, 4) := by decide +kernel
theorem dX6_init_25 : decode cX6_init 25 = .ok (.putfield 16, 3) := by decide +kernel
theorem dX6_init_28 : decode cX6_init 28 = .ok (.aload_n 0, 1) := by decide +kernel
theorem dX6_init_29 : decode cX6_init 29 = .ok (.bipush 16, 2) := by decide +kernel
theorem dX6_init_31 : decode cX6_init 31 = .ok (.newarray .int, 2) := by decide +kernel
theorem dX6_init_33 : decode cX6_init 33 = .ok (.putfield 19, 3) := by decide +kernel
theorem dX6_init_36 : decode cX6_init 36 = .ok (.aload_n 0, 1) := by decide +kernel
theorem dX6_init_37 : decode cX6_init 37 = .ok (.bipush 16, 2) := by decide +kernel
theorem dX6_init_39 : decode cX6_init 39 = .ok (.newarray .int, 2) := by decide +kernel
theorem dX6_init_41 : decode cX6_init 41 = .ok (.putfield 23, 3) := by decide +kernel
theorem dX6_init_44 : decode cX6_init 44 = .ok (.aload_n 0, 1) := by decide +kernel
theorem dX6_init_45 : decode cX6_init 45 = .ok (.bipush 16, 2) := by decide +kernel
theorem dX6_init_47 : decode cX6_init 47 = .ok (.newarray .boolean, 2) := by decide +kernel
theorem dX6_init_49 : decode cX6_init 49 = .ok (.putfield 26, 3) := by decide +kernel
theorem dX6_init_52 : decode cX6_init 52 = .ok (.aload_n 0, 1) := by decide +kernel
theorem dX6_init_53 : decode cX6_init 53 = .ok (.bipush 16, 2) := by decide +kernel
theorem dX6_init_55 : decode cX6_init 55 = .ok (.newarray .boolean, 2) := by decide +kernel
theorem dX6_init_57 : decode cX6_init 57 = .ok (.putfield 30, 3) := by decide +kernel
theorem dX6_init_60 : decode cX6_init 60 = .ok (.return_, 1) := by decide +kernel
theorem dX6_pairUp_0 : decode cX6_pairUp 0 = .ok (.aload_n 1, 1) := by decide +kernel
theorem dX6_pairUp_1 : decode cX6_pairUp 1 = .ok (.iload_n 2, 1) := by decide +kernel
theorem dX6_pairUp_2 : decode cX6_pairUp 2 = .ok (.invokevirtual 33, 3) := by decide +kernel
theorem dX6_pairUp_5 : decode cX6_pairUp 5 = .ok (.astore 6, 2) := by decide +kernel
theorem dX6_pairUp_7 : decode cX6_pairUp 7 = .ok (.aload_n 1, 1) := by decide +kernel
theorem dX6_pairUp_8 : decode cX6_pairUp 8 = .ok (.iload_n 3, 1) := by decide +kernel
theorem dX6_pairUp_9 : decode cX6_pairUp 9 = .ok (.invokevirtual 33, 3) := by decide +kernel
theorem dX6_pairUp_12 : decode cX6_pairUp 12 = .ok (.astore 7, 2) := by decide +kernel
theorem dX6_pairUp_14 : decode cX6_pairUp 14 = .ok (.aload 6, 2) := by decide +kernel
theorem dX6_pairUp_16 : decode cX6_pairUp 16 = .ok (.ifnull 8, 3) := by decide +kernel
theorem dX6_pairUp_19 : decode cX6_pairUp 19 = .ok (.aload 7, 2) := by decide +kernel
theorem dX6_pairUp_21 : decode cX6_pairUp 21 = .ok (.ifnonnull 4, 3) := by decide +kernel
theorem dX6_pairUp_24 : decode cX6_pairUp 24 = .ok (.return_, 1) := by decide +kernel
theorem dX6_pairUp_25 : decode cX6_pairUp 25 = .ok (.aload 6, 2) := by decide +kernel
theorem dX6_pairUp_27 : decode cX6_pairUp 27 = .ok (.iload 4, 2) := by decide +kernel
theorem dX6_pairUp_29 : decode cX6_pairUp 29 = .ok (.invokevirtual 39, 3) := by decide +kernel
theorem dX6_pairUp_32 : decode cX6_pairUp 32 = .ok (.astore 8, 2) := by decide +kernel
theorem dX6_pairUp_34 : decode cX6_pairUp 34 = .ok (.aload 7, 2) := by decide +kernel
theorem dX6_pairUp_36 : decode cX6_pairUp 36 = .ok (.iload 4, 2) := by decide +kernel
theorem dX6_pairUp_38 : decode cX6_pairUp 38 = .ok (.invokevirtual 39, 3) := by decide +kernel
theorem dX6_pairUp_41 : decode cX6_pairUp 41 = .ok (.astore 9, 2) := by decide +kernel
theorem dX6_pairUp_43 : decode cX6_pairUp 43 = .ok (.aload 8, 2) := by decide +kernel
theorem dX6_pairUp_45 : decode cX6_pairUp 45 = .ok (.ifnull 8, 3) := by decide +kernel
theorem dX6_pairUp_48 : decode cX6_pairUp 48 = .ok (.aload 9, 2) := by decide +kernel
theorem dX6_pairUp_50 : decode cX6_pairUp 50 = .ok (.ifnonnull 4, 3) := by decide +kernel
theorem dX6_pairUp_53 : decode cX6_pairUp 53 = .ok (.return_, 1) := by decide +kernel
theorem dX6_pairUp_54 : decode cX6_pairUp 54 = .ok (.aload_n 0, 1) := by decide +kernel
theorem dX6_pairUp_55 : decode cX6_pairUp 55 = .ok (.aload 8, 2) := by decide +kernel
theorem dX6_pairUp_57 : decode cX6_pairUp 57 = .ok (.iload_n 3, 1) := by decide +kernel
theorem dX6_pairUp_58 : decode cX6_pairUp 58 = .ok (.aload_n 0, 1) := by decide +kernel
theorem dX6_pairUp_59 : decode cX6_pairUp 59 = .ok (.getfield 19, 3) := by decide +kernel
theorem dX6_pairUp_62 : decode cX6_pairUp 62 = .ok (.iconst 0, 1) := by decide +kernel
theorem dX6_pairUp_63 : decode cX6_pairUp 63 = .ok (.invokestatic 45, 3) := by decide +kernel
theorem dX6_pairUp_66 : decode cX6_pairUp 66 = .ok (.putfield 49, 3) := by decide +kernel
theorem dX6_pairUp_69 : decode cX6_pairUp 69 = .ok (.aload_n 0, 1) := by decide +kernel
theorem dX6_pairUp_70 : decode cX6_pairUp 70 = .ok (.aload 9, 2) := by decide +kernel
theorem dX6_pairUp_72 : decode cX6_pairUp 72 = .ok (.iload_n 2, 1) := by decide +kernel
theorem dX6_pairUp_73 : decode cX6_pairUp 73 = .ok (.aload_n 0, 1) := by decide +kernel
theorem dX6_pairUp_74 : decode cX6_pairUp 74 = .ok (.getfield 23, 3) := by decide +kernel
theorem dX6_pairUp_77 : decode cX6_pairUp 77 = .ok (.iconst 1, 1) := by decide +kernel
theorem dX6_pairUp_78 : decode cX6_pairUp 78 = .ok (.invokestatic 45, 3) := by decide +kernel
theorem dX6_pairUp_81 : decode cX6_pairUp 81 = .ok (.putfield 53, 3) := by decide +kernel
theorem dX6_pairUp_84 : decode cX6_pairUp 84 = .ok (.aload_n 0, 1) := by decide +kernel
theorem dX6_pairUp_85 : decode cX6_pairUp 85 = .ok (.getfield 49, 3) := by decide +kernel
theorem dX6_pairUp_88 : decode cX6_pairUp 88 = .ok (.ifCond .eq 10, 3) := by decide +kernel
theorem dX6_pairUp_91 : decode cX6_pairUp 91 = .ok (.aload_n 0, 1) := by decide +kernel
theorem dX6_pairUp_92 : decode cX6_pairUp 92 = .ok (.getfield 53, 3) := by decide +kernel
theorem dX6_pairUp_95 : decode cX6_pairUp 95 = .ok (.ifCond .ne 4, 3) := by decide +kernel
theorem dX6_pairUp_98 : decode cX6_pairUp 98 = .ok (.return_, 1) := by decide +kernel
theorem dX6_pairUp_99 : decode cX6_pairUp 99 = .ok (.aload_n 0, 1) := by decide +kernel
theorem dX6_pairUp_100 : decode cX6_pairUp 100 = .ok (.invokevirtual 56, 3) := by decide +kernel
theorem dX6_pairUp_103 : decode cX6_pairUp 103 = .ok (.aload_n 0, 1) := by decide +kernel
theorem dX6_pairUp_104 : decode cX6_pairUp 104 = .ok (.aload 6, 2) := by decide +kernel
theorem dX6_pairUp_106 : decode cX6_pairUp 106 = .ok (.aload 7, 2) := by decide +kernel
theorem dX6_pairUp_108 : decode cX6_pairUp 108 = .ok (.iload 4, 2) := by decide +kernel
theorem dX6_pairUp_110 : decode cX6_pairUp 110 = .ok (.iload 5, 2) := by decide +kernel
theorem dX6_pairUp_112 : decode cX6_pairUp 112 = .ok (.invokevirtual 59, 3) := by decide +kernel
theorem dX6_pairUp_115 : decode cX6_pairUp 115 = .ok (.aload_n 0, 1) := by decide +kernel
theorem dX6_pairUp_116 : decode cX6_pairUp 116 = .ok (.invokevirtual 63, 3) := by decide +kernel
theorem dX6_pairUp_119 : decode cX6_pairUp 119 = .ok (.istore 10, 2) := by decide +kernel
theorem dX6_pairUp_121 : decode cX6_pairUp 121 = .ok (.iconst 0, 1) := by decide +kernel
theorem dX6_pairUp_122 : decode cX6_pairUp 122 = .ok (.istore 11, 2) := by decide +kernel
theorem dX6_pairUp_124 : decode cX6_pairUp 124 = .ok (.iload 11, 2) := by decide +kernel
theorem dX6_pairUp_126 : decode cX6_pairUp 126 = .ok (.aload 8, 2) := by decide +kernel
theorem dX6_pairUp_128 : decode cX6_pairUp 128 = .ok (.getfield 67, 3) := by decide +kernel
theorem dX6_pairUp_131 : decode cX6_pairUp 131 = .ok (.if_icmp .ge 71, 3) := by decide +kernel
theorem dX6_pairUp_134 : decode cX6_pairUp 134 = .ok (.iload 10, 2) := by decide +kernel
theorem dX6_pairUp_136 : decode cX6_pairUp 136 = .ok (.ifCond .le 66, 3) := by decide +kernel
theorem dX6_pairUp_139 : decode cX6_pairUp 139 = .ok (.aload_n 0, 1) := by decide +kernel
theorem dX6_pairUp_140 : decode cX6_pairUp 140 = .ok (.iload 11, 2) := by decide +kernel
theorem dX6_pairUp_142 : decode cX6_pairUp 142 = .ok (.iload 10, 2) := by decide +kernel
theorem dX6_pairUp_144 : decode cX6_pairUp 144 = .ok (.invokevirtual 70, 3) := by decide +kernel
theorem dX6_pairUp_147 : decode cX6_pairUp 147 = .ok (.istore 12, 2) := by decide +kernel
theorem dX6_pairUp_149 : decode cX6_pairUp 149 = .ok (.iload 12, 2) := by decide +kernel
theorem dX6_pairUp_151 : decode cX6_pairUp 151 = .ok (.iconst (-1), 1) := by decide +kernel
theorem dX6_pairUp_152 : decode cX6_pairUp 152 = .ok (.if_icmp .eq 44, 3) := by decide +kernel
theorem dX6_pairUp_155 : decode cX6_pairUp 155 = .ok (.iload 10, 2) := by decide +kernel
theorem dX6_pairUp_157 : decode cX6_pairUp 157 = .ok (.aload_n 0, 1) := by decide +kernel
theorem dX6_pairUp_158 : decode cX6_pairUp 158 = .ok (.getfield 11, 3) := by decide +kernel
theorem dX6_pairUp_161 : decode cX6_pairUp 161 = .ok (.iload 11, 2) := by decide +kernel
theorem dX6_pairUp_163 : decode cX6_pairUp 163 = .ok (.aaload, 1) := by decide +kernel
theorem dX6_pairUp_164 : decode cX6_pairUp 164 = .ok (.iload 12, 2) := by decide +kernel
theorem dX6_pairUp_166 : decode cX6_pairUp 166 = .ok (.iaload, 1) := by decide +kernel
theorem dX6_pairUp_167 : decode cX6_pairUp 167 = .ok (.isub, 1) := by decide +kernel
theorem dX6_pairUp_168 : decode cX6_pairUp 168 = .ok (.istore 10, 2) := by decide +kernel
theorem dX6_pairUp_170 : decode cX6_pairUp 170 = .ok (.aload 8, 2) := by decide +kernel
theorem dX6_pairUp_172 : decode cX6_pairUp 172 = .ok (.iload 11, 2) := by decide +kernel
theorem dX6_pairUp_174 : decode cX6_pairUp 174 = .ok (.invokevirtual 74, 3) := by decide +kernel
theorem dX6_pairUp_177 : decode cX6_pairUp 177 = .ok (.iload_n 3, 1) := by decide +kernel
theorem dX6_pairUp_178 : decode cX6_pairUp 178 = .ok (.iload 12, 2) := by decide +kernel
theorem dX6_pairUp_180 : decode cX6_pairUp 180 = .ok (.invokestatic 78, 3) := by decide +kernel
theorem dX6_pairUp_183 : decode cX6_pairUp 183 = .ok (.aload 9, 2) := by decide +kernel
theorem dX6_pairUp_185 : decode cX6_pairUp 185 = .ok (.iload 12, 2) := by decide +kernel
theorem dX6_pairUp_187 : decode cX6_pairUp 187 = .ok (.invokevirtual 74, 3) := by decide +kernel
theorem dX6_pairUp_190 : decode cX6_pairUp 190 = .ok (.iload_n 2, 1) := by decide +kernel
theorem dX6_pairUp_191 : decode cX6_pairUp 191 = .ok (.iload 11, 2) := by decide +kernel
theorem dX6_pairUp_193 : decode cX6_pairUp 193 = .ok (.invokestatic 78, 3) := by decide +kernel
theorem dX6_pairUp_196 : decode cX6_pairUp 196 = .ok (.iinc 11 1, 3) := by decide +kernel
theorem dX6_pairUp_199 : decode cX6_pairUp 199 = .ok (.goto (-75), 3) := by decide +kernel
theorem dX6_pairUp_202 : decode cX6_pairUp 202 = .ok (.return_, 1) := by decide +kernel
theorem dX6_setMate_0 : decode cX6_setMate 0 = .ok (.aload_n 0, 1) := by decide +kernel
theorem dX6_setMate_1 : decode cX6_setMate 1 = .ok (.ifnull 13, 3) := by decide +kernel
theorem dX6_setMate_4 : decode cX6_setMate 4 = .ok (.aload_n 0, 1) := by decide +kernel
theorem dX6_setMate_5 : decode cX6_setMate 5 = .ok (.iload_n 1, 1) := by decide +kernel
theorem dX6_setMate_6 : decode cX6_setMate 6 = .ok (.putfield 82, 3) := by decide +kernel
theorem dX6_setMate_9 : decode cX6_setMate 9 = .ok (.aload_n 0, 1) := by decide +kernel
theorem dX6_setMate_10 : decode cX6_setMate 10 = .ok (.iload_n 2, 1) := by decide +kernel
theorem dX6_setMate_11 : decode cX6_setMate 11 = .ok (.putfield 87, 3) := by decide +kernel
theorem dX6_setMate_14 : decode cX6_setMate 14 = .ok (.return_, 1) := by decide +kernel
theorem dX6_putInOrder_0 : decode cX6_putInOrder 0 = .ok (.iconst 0, 1) := by decide +kernel
theorem dX6_putInOrder_1 : decode cX6_putInOrder 1 = .ok (.istore 4, 2) := by decide +kernel
theorem dX6_putInOrder_3 : decode cX6_putInOrder 3 = .ok (.iconst 0, 1) := by decide +kernel
theorem dX6_putInOrder_4 : decode cX6_putInOrder 4 = .ok (.istore 5, 2) := by decide +kernel
theorem dX6_putInOrder_6 : decode cX6_putInOrder 6 = .ok (.iload 5, 2) := by decide +kernel
theorem dX6_putInOrder_8 : decode cX6_putInOrder 8 = .ok (.aload_n 0, 1) := by decide +kernel
theorem dX6_putInOrder_9 : decode cX6_putInOrder 9 = .ok (.getfield 67, 3) := by decide +kernel
theorem dX6_putInOrder_12 : decode cX6_putInOrder 12 = .ok (.if_icmp .ge 102, 3) := by decide +kernel
theorem dX6_putInOrder_15 : decode cX6_putInOrder 15 = .ok (.iload 5, 2) := by decide +kernel
theorem dX6_putInOrder_17 : decode cX6_putInOrder 17 = .ok (.aload_n 2, 1) := by decide +kernel
theorem dX6_putInOrder_18 : decode cX6_putInOrder 18 = .ok (.arraylength, 1) := by decide +kernel
theorem dX6_putInOrder_19 : decode cX6_putInOrder 19 = .ok (.if_icmp .ge 95, 3) := by decide +kernel
theorem dX6_putInOrder_22 : decode cX6_putInOrder 22 = .ok (.aload_n 0, 1) := by decide +kernel
theorem dX6_putInOrder_23 : decode cX6_putInOrder 23 = .ok (.iload 5, 2) := by decide +kernel
theorem dX6_putInOrder_25 : decode cX6_putInOrder 25 = .ok (.invokevirtual 74, 3) := by decide +kernel
theorem dX6_putInOrder_28 : decode cX6_putInOrder 28 = .ok (.astore 6, 2) := by decide +kernel
theorem dX6_putInOrder_30 : decode cX6_putInOrder 30 = .ok (.aload 6, 2) := by decide +kernel
theorem dX6_putInOrder_32 : decode cX6_putInOrder 32 = .ok (.ifnull 76, 3) := by decide +kernel
theorem dX6_putInOrder_35 : decode cX6_putInOrder 35 = .ok (.aload 6, 2) := by decide +kernel
theorem dX6_putInOrder_37 : decode cX6_putInOrder 37 = .ok (.getfield 90, 3) := by decide +kernel
theorem dX6_putInOrder_40 : decode cX6_putInOrder 40 = .ok (.iload_n 1, 1) := by decide +kernel
theorem dX6_putInOrder_41 : decode cX6_putInOrder 41 = .ok (.if_icmp .ne 67, 3) := by decide +kernel
theorem dX6_putInOrder_44 : decode cX6_putInOrder 44 = .ok (.aload 6, 2) := by decide +kernel
theorem dX6_putInOrder_46 : decode cX6_putInOrder 46 = .ok (.invokevirtual 93, 3) := by decide +kernel
theorem dX6_putInOrder_49 : decode cX6_putInOrder 49 = .ok (.ifCond .ne 6, 3) := by decide +kernel
theorem dX6_putInOrder_52 : decode cX6_putInOrder 52 = .ok (.goto 56, 3) := by decide +kernel
theorem dX6_putInOrder_55 : decode cX6_putInOrder 55 = .ok (.iload 4, 2) := by decide +kernel
theorem dX6_putInOrder_57 : decode cX6_putInOrder 57 = .ok (.istore 7, 2) := by decide +kernel
theorem dX6_putInOrder_59 : decode cX6_putInOrder 59 = .ok (.iload 7, 2) := by decide +kernel
theorem dX6_putInOrder_61 : decode cX6_putInOrder 61 = .ok (.ifCond .le 38, 3) := by decide +kernel
theorem dX6_putInOrder_64 : decode cX6_putInOrder 64 = .ok (.aload 6, 2) := by decide +kernel
theorem dX6_putInOrder_66 : decode cX6_putInOrder 66 = .ok (.aload_n 0, 1) := by decide +kernel
theorem dX6_putInOrder_67 : decode cX6_putInOrder 67 = .ok (.aload_n 2, 1) := by decide +kernel
theorem dX6_putInOrder_68 : decode cX6_putInOrder 68 = .ok (.iload 7, 2) := by decide +kernel
theorem dX6_putInOrder_70 : decode cX6_putInOrder 70 = .ok (.iconst 1, 1) := by decide +kernel
theorem dX6_putInOrder_71 : decode cX6_putInOrder 71 = .ok (.isub, 1) := by decide +kernel
theorem dX6_putInOrder_72 : decode cX6_putInOrder 72 = .ok (.iaload, 1) := by decide +kernel
theorem dX6_putInOrder_73 : decode cX6_putInOrder 73 = .ok (.invokevirtual 74, 3) := by decide +kernel
theorem dX6_putInOrder_76 : decode cX6_putInOrder 76 = .ok (.iload_n 3, 1) := by decide +kernel
theorem dX6_putInOrder_77 : decode cX6_putInOrder 77 = .ok (.invokestatic 97, 3) := by decide +kernel
theorem dX6_putInOrder_80 : decode cX6_putInOrder 80 = .ok (.ifCond .eq 19, 3) := by decide +kernel
theorem dX6_putInOrder_83 : decode cX6_putInOrder 83 = .ok (.aload_n 2, 1) := by decide +kernel
theorem dX6_putInOrder_84 : decode cX6_putInOrder 84 = .ok (.iload 7, 2) := by decide +kernel
theorem dX6_putInOrder_86 : decode cX6_putInOrder 86 = .ok (.aload_n 2, 1) := by decide +kernel
theorem dX6_putInOrder_87 : decode cX6_putInOrder 87 = .ok (.iload 7, 2) := by decide +kernel
theorem dX6_putInOrder_89 : decode cX6_putInOrder 89 = .ok (.iconst 1, 1) := by decide +kernel
theorem dX6_putInOrder_90 : decode cX6_putInOrder 90 = .ok (.isub, 1) := by decide +kernel
theorem dX6_putInOrder_91 : decode cX6_putInOrder 91 = .ok (.iaload, 1) := by decide +kernel
theorem dX6_putInOrder_92 : decode cX6_putInOrder 92 = .ok (.iastore, 1) := by decide +kernel
theorem dX6_putInOrder_93 : decode cX6_putInOrder 93 = .ok (.iinc 7 (-1), 3) := by decide +kernel
theorem dX6_putInOrder_96 : decode cX6_putInOrder 96 = .ok (.goto (-37), 3) := by decide +kernel
theorem dX6_putInOrder_99 : decode cX6_putInOrder 99 = .ok (.aload_n 2, 1) := by decide +kernel
theorem dX6_putInOrder_100 : decode cX6_putInOrder 100 = .ok (.iload 7, 2) := by decide +kernel
theorem dX6_putInOrder_102 : decode cX6_putInOrder 102 = .ok (.iload 5, 2) := by decide +kernel
theorem dX6_putInOrder_104 : decode cX6_putInOrder 104 = .ok (.iastore, 1) := by decide +kernel
theorem dX6_putInOrder_105 : decode cX6_putInOrder 105 = .ok (.iinc 4 1, 3) := by decide +kernel
theorem dX6_putInOrder_108 : decode cX6_putInOrder 108 = .ok (.iinc 5 1, 3) := by decide +kernel
theorem dX6_putInOrder_111 : decode cX6_putInOrder 111 = .ok (.goto (-105), 3) := by decide +kernel
theorem dX6_putInOrder_114 : decode cX6_putInOrder 114 = .ok (.iload 4, 2) := by decide +kernel
theorem dX6_putInOrder_116 : decode cX6_putInOrder 116 = .ok (.ireturn, 1) := by decide +kernel
theorem dX6_isAhead_0 : decode cX6_isAhead 0 = .ok (.aload_n 1, 1) := by decide +kernel
theorem dX6_isAhead_1 : decode cX6_isAhead 1 = .ok (.ifnonnull 5, 3) := by decide +kernel
theorem dX6_isAhead_4 : decode cX6_isAhead 4 = .ok (.iconst 0, 1) := by decide +kernel
theorem dX6_isAhead_5 : decode cX6_isAhead 5 = .ok (.ireturn, 1) := by decide +kernel
theorem dX6_isAhead_6 : decode cX6_isAhead 6 = .ok (.aload_n 0, 1) := by decide +kernel
theorem dX6_isAhead_7 : decode cX6_isAhead 7 = .ok (.getfield 101, 3) := by decide +kernel
theorem dX6_isAhead_10 : decode cX6_isAhead 10 = .ok (.aload_n 1, 1) := by decide +kernel
theorem dX6_isAhead_11 : decode cX6_isAhead 11 = .ok (.getfield 101, 3) := by decide +kernel
theorem dX6_isAhead_14 : decode cX6_isAhead 14 = .ok (.invokestatic 104, 3) := by decide +kernel
theorem dX6_isAhead_17 : decode cX6_isAhead 17 = .ok (.istore_n 3, 1) := by decide +kernel
theorem dX6_isAhead_18 : decode cX6_isAhead 18 = .ok (.aload_n 0, 1) := by decide +kernel
theorem dX6_isAhead_19 : decode cX6_isAhead 19 = .ok (.getfield 109, 3) := by decide +kernel
theorem dX6_isAhead_22 : decode cX6_isAhead 22 = .ok (.aload_n 1, 1) := by decide +kernel
theorem dX6_isAhead_23 : decode cX6_isAhead 23 = .ok (.getfield 109, 3) := by decide +kernel
theorem dX6_isAhead_26 : decode cX6_isAhead 26 = .ok (.invokestatic 104, 3) := by decide +kernel
theorem dX6_isAhead_29 : decode cX6_isAhead 29 = .ok (.istore 4, 2) := by decide +kernel
theorem dX6_isAhead_31 : decode cX6_isAhead 31 = .ok (.iload_n 2, 1) := by decide +kernel
theorem dX6_isAhead_32 : decode cX6_isAhead 32 = .ok (.ifCond .eq 8, 3) := by decide +kernel
theorem dX6_isAhead_35 : decode cX6_isAhead 35 = .ok (.iload 4, 2) := by decide +kernel
theorem dX6_isAhead_37 : decode cX6_isAhead 37 = .ok (.goto 4, 3) := by decide +kernel
theorem dX6_isAhead_40 : decode cX6_isAhead 40 = .ok (.iload_n 3, 1) := by decide +kernel
theorem dX6_isAhead_41 : decode cX6_isAhead 41 = .ok (.istore 5, 2) := by decide +kernel
theorem dX6_isAhead_43 : decode cX6_isAhead 43 = .ok (.iload_n 2, 1) := by decide +kernel
theorem dX6_isAhead_44 : decode cX6_isAhead 44 = .ok (.ifCond .eq 7, 3) := by decide +kernel
theorem dX6_isAhead_47 : decode cX6_isAhead 47 = .ok (.iload_n 3, 1) := by decide +kernel
theorem dX6_isAhead_48 : decode cX6_isAhead 48 = .ok (.goto 5, 3) := by decide +kernel
theorem dX6_isAhead_51 : decode cX6_isAhead 51 = .ok (.iload 4, 2) := by decide +kernel
theorem dX6_isAhead_53 : decode cX6_isAhead 53 = .ok (.istore 6, 2) := by decide +kernel
theorem dX6_isAhead_55 : decode cX6_isAhead 55 = .ok (.iload 5, 2) := by decide +kernel
theorem dX6_isAhead_57 : decode cX6_isAhead 57 = .ok (.ifCond .eq 16, 3) := by decide +kernel
theorem dX6_isAhead_60 : decode cX6_isAhead 60 = .ok (.iload 5, 2) := by decide +kernel
theorem dX6_isAhead_62 : decode cX6_isAhead 62 = .ok (.ifCond .ge 7, 3) := by decide +kernel
theorem dX6_isAhead_65 : decode cX6_isAhead 65 = .ok (.iconst 1, 1) := by decide +kernel
theorem dX6_isAhead_66 : decode cX6_isAhead 66 = .ok (.goto 42, 3) := by decide +kernel
theorem dX6_isAhead_69 : decode cX6_isAhead 69 = .ok (.iconst 0, 1) := by decide +kernel
theorem dX6_isAhead_70 : decode cX6_isAhead 70 = .ok (.goto 38, 3) := by decide +kernel
theorem dX6_isAhead_73 : decode cX6_isAhead 73 = .ok (.iload 6, 2) := by decide +kernel
theorem dX6_isAhead_75 : decode cX6_isAhead 75 = .ok (.ifCond .eq 16, 3) := by decide +kernel
theorem dX6_isAhead_78 : decode cX6_isAhead 78 = .ok (.iload 6, 2) := by decide +kernel
theorem dX6_isAhead_80 : decode cX6_isAhead 80 = .ok (.ifCond .ge 7, 3) := by decide +kernel
theorem dX6_isAhead_83 : decode cX6_isAhead 83 = .ok (.iconst 1, 1) := by decide +kernel
theorem dX6_isAhead_84 : decode cX6_isAhead 84 = .ok (.goto 24, 3) := by decide +kernel
theorem dX6_isAhead_87 : decode cX6_isAhead 87 = .ok (.iconst 0, 1) := by decide +kernel
theorem dX6_isAhead_88 : decode cX6_isAhead 88 = .ok (.goto 20, 3) := by decide +kernel
theorem dX6_isAhead_91 : decode cX6_isAhead 91 = .ok (.aload_n 0, 1) := by decide +kernel
theorem dX6_isAhead_92 : decode cX6_isAhead 92 = .ok (.getfield 112, 3) := by decide +kernel
theorem dX6_isAhead_95 : decode cX6_isAhead 95 = .ok (.aload_n 1, 1) := by decide +kernel
theorem dX6_isAhead_96 : decode cX6_isAhead 96 = .ok (.getfield 112, 3) := by decide +kernel
theorem dX6_isAhead_99 : decode cX6_isAhead 99 = .ok (.lcmp, 1) := by decide +kernel
theorem dX6_isAhead_100 : decode cX6_isAhead 100 = .ok (.ifCond .ge 7, 3) := by decide +kernel
theorem dX6_isAhead_103 : decode cX6_isAhead 103 = .ok (.iconst 1, 1) := by decide +kernel
theorem dX6_isAhead_104 : decode cX6_isAhead 104 = .ok (.goto 4, 3) := by decide +kernel
theorem dX6_isAhead_107 : decode cX6_isAhead 107 = .ok (.iconst 0, 1) := by decide +kernel
theorem dX6_isAhead_108 : decode cX6_isAhead 108 = .ok (.ireturn, 1) := by decide +kernel
theorem dX6_clearMeasures_0 : decode cX6_clearMeasures 0 = .ok (.iconst 0, 1) := by decide +kernel
theorem dX6_clearMeasures_1 : decode cX6_clearMeasures 1 = .ok (.istore_n 1, 1) := by decide +kernel
theorem dX6_clearMeasures_2 : decode cX6_clearMeasures 2 = .ok (.iload_n 1, 1) := by decide +kernel
theorem dX6_clearMeasures_3 : decode cX6_clearMeasures 3 = .ok (.bipush 16, 2) := by decide +kernel
theorem dX6_clearMeasures_5 : decode cX6_clearMeasures 5 = .ok (.if_icmp .ge 46, 3) := by decide +kernel
theorem dX6_clearMeasures_8 : decode cX6_clearMeasures 8 = .ok (.aload_n 0, 1) := by decide +kernel
theorem dX6_clearMeasures_9 : decode cX6_clearMeasures 9 = .ok (.getfield 26, 3) := by decide +kernel
theorem dX6_clearMeasures_12 : decode cX6_clearMeasures 12 = .ok (.iload_n 1, 1) := by decide +kernel
theorem dX6_clearMeasures_13 : decode cX6_clearMeasures 13 = .ok (.iconst 0, 1) := by decide +kernel
theorem dX6_clearMeasures_14 : decode cX6_clearMeasures 14 = .ok (.bastore, 1) := by decide +kernel
theorem dX6_clearMeasures_15 : decode cX6_clearMeasures 15 = .ok (.aload_n 0, 1) := by decide +kernel
theorem dX6_clearMeasures_16 : decode cX6_clearMeasures 16 = .ok (.getfield 30, 3) := by decide +kernel
theorem dX6_clearMeasures_19 : decode cX6_clearMeasures 19 = .ok (.iload_n 1, 1) := by decide +kernel
theorem dX6_clearMeasures_20 : decode cX6_clearMeasures 20 = .ok (.iconst 0, 1) := by decide +kernel
theorem dX6_clearMeasures_21 : decode cX6_clearMeasures 21 = .ok (.bastore, 1) := by decide +kernel
theorem dX6_clearMeasures_22 : decode cX6_clearMeasures 22 = .ok (.iconst 0, 1) := by decide +kernel
theorem dX6_clearMeasures_23 : decode cX6_clearMeasures 23 = .ok (.istore_n 2, 1) := by decide +kernel
theorem dX6_clearMeasures_24 : decode cX6_clearMeasures 24 = .ok (.iload_n 2, 1) := by decide +kernel
theorem dX6_clearMeasures_25 : decode cX6_clearMeasures 25 = .ok (.bipush 16, 2) := by decide +kernel
theorem dX6_clearMeasures_27 : decode cX6_clearMeasures 27 = .ok (.if_icmp .ge 18, 3) := by decide +kernel
theorem dX6_clearMeasures_30 : decode cX6_clearMeasures 30 = .ok (.aload_n 0, 1) := by decide +kernel
theorem dX6_clearMeasures_31 : decode cX6_clearMeasures 31 = .ok (.getfield 11, 3) := by decide +kernel
theorem dX6_clearMeasures_34 : decode cX6_clearMeasures 34 = .ok (.iload_n 1, 1) := by decide +kernel
theorem dX6_clearMeasures_35 : decode cX6_clearMeasures 35 = .ok (.aaload, 1) := by decide +kernel
theorem dX6_clearMeasures_36 : decode cX6_clearMeasures 36 = .ok (.iload_n 2, 1) := by decide +kernel
theorem dX6_clearMeasures_37 : decode cX6_clearMeasures 37 = .ok (.iconst 0, 1) := by decide +kernel
theorem dX6_clearMeasures_38 : decode cX6_clearMeasures 38 = .ok (.iastore, 1) := by decide +kernel
theorem dX6_clearMeasures_39 : decode cX6_clearMeasures 39 = .ok (.iinc 2 1, 3) := by decide +kernel
theorem dX6_clearMeasures_42 : decode cX6_clearMeasures 42 = .ok (.goto (-18), 3) := by decide +kernel
theorem dX6_clearMeasures_45 : decode cX6_clearMeasures 45 = .ok (.iinc 1 1, 3) := by decide +kernel
theorem dX6_clearMeasures_48 : decode cX6_clearMeasures 48 = .ok (.goto (-46), 3) := by decide +kernel
theorem dX6_clearMeasures_51 : decode cX6_clearMeasures 51 = .ok (.return_, 1) := by decide +kernel
theorem dX6_measure_0 : decode cX6_measure 0 = .ok (.aload_n 1, 1) := by decide +kernel
theorem dX6_measure_1 : decode cX6_measure 1 = .ok (.iload_n 3, 1) := by decide +kernel
theorem dX6_measure_2 : decode cX6_measure 2 = .ok (.invokevirtual 39, 3) := by decide +kernel
theorem dX6_measure_5 : decode cX6_measure 5 = .ok (.astore 5, 2) := by decide +kernel
theorem dX6_measure_7 : decode cX6_measure 7 = .ok (.aload_n 2, 1) := by decide +kernel
theorem dX6_measure_8 : decode cX6_measure 8 = .ok (.iload_n 3, 1) := by decide +kernel
theorem dX6_measure_9 : decode cX6_measure 9 = .ok (.invokevirtual 39, 3) := by decide +kernel
theorem dX6_measure_12 : decode cX6_measure 12 = .ok (.astore 6, 2) := by decide +kernel
theorem dX6_measure_14 : decode cX6_measure 14 = .ok (.iconst 0, 1) := by decide +kernel
theorem dX6_measure_15 : decode cX6_measure 15 = .ok (.istore 7, 2) := by decide +kernel
theorem dX6_measure_17 : decode cX6_measure 17 = .ok (.iload 7, 2) := by decide +kernel
theorem dX6_measure_19 : decode cX6_measure 19 = .ok (.aload_n 0, 1) := by decide +kernel
theorem dX6_measure_20 : decode cX6_measure 20 = .ok (.getfield 49, 3) := by decide +kernel
theorem dX6_measure_23 : decode cX6_measure 23 = .ok (.if_icmp .ge 141, 3) := by decide +kernel
theorem dX6_measure_26 : decode cX6_measure 26 = .ok (.aload 5, 2) := by decide +kernel
theorem dX6_measure_28 : decode cX6_measure 28 = .ok (.ifnull 136, 3) := by decide +kernel
theorem dX6_measure_31 : decode cX6_measure 31 = .ok (.aload 6, 2) := by decide +kernel
theorem dX6_measure_33 : decode cX6_measure 33 = .ok (.ifnull 131, 3) := by decide +kernel
theorem dX6_measure_36 : decode cX6_measure 36 = .ok (.aload 5, 2) := by decide +kernel
theorem dX6_measure_38 : decode cX6_measure 38 = .ok (.aload_n 0, 1) := by decide +kernel
theorem dX6_measure_39 : decode cX6_measure 39 = .ok (.getfield 19, 3) := by decide +kernel
theorem dX6_measure_42 : decode cX6_measure 42 = .ok (.iload 7, 2) := by decide +kernel
theorem dX6_measure_44 : decode cX6_measure 44 = .ok (.iaload, 1) := by decide +kernel
theorem dX6_measure_45 : decode cX6_measure 45 = .ok (.invokevirtual 74, 3) := by decide +kernel
theorem dX6_measure_48 : decode cX6_measure 48 = .ok (.astore 8, 2) := by decide +kernel
theorem dX6_measure_50 : decode cX6_measure 50 = .ok (.iconst 0, 1) := by decide +kernel
theorem dX6_measure_51 : decode cX6_measure 51 = .ok (.istore 9, 2) := by decide +kernel
theorem dX6_measure_53 : decode cX6_measure 53 = .ok (.iload 9, 2) := by decide +kernel
theorem dX6_measure_55 : decode cX6_measure 55 = .ok (.aload_n 0, 1) := by decide +kernel
theorem dX6_measure_56 : decode cX6_measure 56 = .ok (.getfield 53, 3) := by decide +kernel
theorem dX6_measure_59 : decode cX6_measure 59 = .ok (.if_icmp .ge 99, 3) := by decide +kernel
theorem dX6_measure_62 : decode cX6_measure 62 = .ok (.aload 8, 2) := by decide +kernel
theorem dX6_measure_64 : decode cX6_measure 64 = .ok (.ifnull 94, 3) := by decide +kernel
theorem dX6_measure_67 : decode cX6_measure 67 = .ok (.aload 6, 2) := by decide +kernel
theorem dX6_measure_69 : decode cX6_measure 69 = .ok (.aload_n 0, 1) := by decide +kernel
theorem dX6_measure_70 : decode cX6_measure 70 = .ok (.getfield 23, 3) := by decide +kernel
theorem dX6_measure_73 : decode cX6_measure 73 = .ok (.iload 9, 2) := by decide +kernel
theorem dX6_measure_75 : decode cX6_measure 75 = .ok (.iaload, 1) := by decide +kernel
theorem dX6_measure_76 : decode cX6_measure 76 = .ok (.invokevirtual 74, 3) := by decide +kernel
theorem dX6_measure_79 : decode cX6_measure 79 = .ok (.astore 10, 2) := by decide +kernel
theorem dX6_measure_81 : decode cX6_measure 81 = .ok (.aload 10, 2) := by decide +kernel
theorem dX6_measure_83 : decode cX6_measure 83 = .ok (.ifnull 69, 3) := by decide +kernel
theorem dX6_measure_86 : decode cX6_measure 86 = .ok (.aload 8, 2) := by decide +kernel
theorem dX6_measure_88 : decode cX6_measure 88 = .ok (.aload 10, 2) := by decide +kernel
theorem dX6_measure_90 : decode cX6_measure 90 = .ok (.invokevirtual 116, 3) := by decide +kernel
theorem dX6_measure_93 : decode cX6_measure 93 = .ok (.ifCond .ne 6, 3) := by decide +kernel
theorem dX6_measure_96 : decode cX6_measure 96 = .ok (.goto 56, 3) := by decide +kernel
theorem dX6_measure_99 : decode cX6_measure 99 = .ok (.aload_n 1, 1) := by decide +kernel
theorem dX6_measure_100 : decode cX6_measure 100 = .ok (.aload 8, 2) := by decide +kernel
theorem dX6_measure_102 : decode cX6_measure 102 = .ok (.invokevirtual 120, 3) := by decide +kernel
theorem dX6_measure_105 : decode cX6_measure 105 = .ok (.aload_n 2, 1) := by decide +kernel
theorem dX6_measure_106 : decode cX6_measure 106 = .ok (.aload 10, 2) := by decide +kernel
theorem dX6_measure_108 : decode cX6_measure 108 = .ok (.invokevirtual 120, 3) := by decide +kernel
theorem dX6_measure_111 : decode cX6_measure 111 = .ok (.lsub, 1) := by decide +kernel
theorem dX6_measure_112 : decode cX6_measure 112 = .ok (.invokestatic 124, 3) := by decide +kernel
theorem dX6_measure_115 : decode cX6_measure 115 = .ok (.lstore 11, 2) := by decide +kernel
theorem dX6_measure_117 : decode cX6_measure 117 = .ok (.lload 11, 2) := by decide +kernel
theorem dX6_measure_119 : decode cX6_measure 119 = .ok (.iload 4, 2) := by decide +kernel
theorem dX6_measure_121 : decode cX6_measure 121 = .ok (.i2l, 1) := by decide +kernel
theorem dX6_measure_122 : decode cX6_measure 122 = .ok (.lcmp, 1) := by decide +kernel
theorem dX6_measure_123 : decode cX6_measure 123 = .ok (.ifCond .gt 29, 3) := by decide +kernel
theorem dX6_measure_126 : decode cX6_measure 126 = .ok (.aload_n 0, 1) := by decide +kernel
theorem dX6_measure_127 : decode cX6_measure 127 = .ok (.getfield 11, 3) := by decide +kernel
theorem dX6_measure_130 : decode cX6_measure 130 = .ok (.aload_n 0, 1) := by decide +kernel
theorem dX6_measure_131 : decode cX6_measure 131 = .ok (.getfield 19, 3) := by decide +kernel
theorem dX6_measure_134 : decode cX6_measure 134 = .ok (.iload 7, 2) := by decide +kernel
theorem dX6_measure_136 : decode cX6_measure 136 = .ok (.iaload, 1) := by decide +kernel
theorem dX6_measure_137 : decode cX6_measure 137 = .ok (.aaload, 1) := by decide +kernel
theorem dX6_measure_138 : decode cX6_measure 138 = .ok (.aload_n 0, 1) := by decide +kernel
theorem dX6_measure_139 : decode cX6_measure 139 = .ok (.getfield 23, 3) := by decide +kernel
theorem dX6_measure_142 : decode cX6_measure 142 = .ok (.iload 9, 2) := by decide +kernel
theorem dX6_measure_144 : decode cX6_measure 144 = .ok (.iaload, 1) := by decide +kernel
theorem dX6_measure_145 : decode cX6_measure 145 = .ok (.ldc 130, 2) := by decide +kernel
theorem dX6_measure_147 : decode cX6_measure 147 = .ok (.lload 11, 2) := by decide +kernel
theorem dX6_measure_149 : decode cX6_measure 149 = .ok (.l2i, 1) := by decide +kernel
theorem dX6_measure_150 : decode cX6_measure 150 = .ok (.isub, 1) := by decide +kernel
theorem dX6_measure_151 : decode cX6_measure 151 = .ok (.iastore, 1) := by decide +kernel
theorem dX6_measure_152 : decode cX6_measure 152 = .ok (.iinc 9 1, 3) := by decide +kernel
theorem dX6_measure_155 : decode cX6_measure 155 = .ok (.goto (-102), 3) := by decide +kernel
theorem dX6_measure_158 : decode cX6_measure 158 = .ok (.iinc 7 1, 3) := by decide +kernel
theorem dX6_measure_161 : decode cX6_measure 161 = .ok (.goto (-144), 3) := by decide +kernel
theorem dX6_measure_164 : decode cX6_measure 164 = .ok (.return_, 1) := by decide +kernel
theorem dX6_bestOfUnsettled_0 : decode cX6_bestOfUnsettled 0 = .ok (.iconst 0, 1) := by decide +kernel
theorem dX6_bestOfUnsettled_1 : decode cX6_bestOfUnsettled 1 = .ok (.istore_n 1, 1) := by decide +kernel
theorem dX6_bestOfUnsettled_2 : decode cX6_bestOfUnsettled 2 = .ok (.iload_n 1, 1) := by decide +kernel
theorem dX6_bestOfUnsettled_3 : decode cX6_bestOfUnsettled 3 = .ok (.aload_n 0, 1) := by decide +kernel
theorem dX6_bestOfUnsettled_4 : decode cX6_bestOfUnsettled 4 = .ok (.getfield 49, 3) := by decide +kernel
theorem dX6_bestOfUnsettled_7 : decode cX6_bestOfUnsettled 7 = .ok (.if_icmp .gt 21, 3) := by decide +kernel
theorem dX6_bestOfUnsettled_10 : decode cX6_bestOfUnsettled 10 = .ok (.aload_n 0, 1) := by decide +kernel
theorem dX6_bestOfUnsettled_11 : decode cX6_bestOfUnsettled 11 = .ok (.getfield 16, 3) := by decide +kernel
theorem dX6_bestOfUnsettled_14 : decode cX6_bestOfUnsettled 14 = .ok (.iload_n 1, 1) := by decide +kernel
theorem dX6_bestOfUnsettled_15 : decode cX6_bestOfUnsettled 15 = .ok (.aaload, 1) := by decide +kernel
theorem dX6_bestOfUnsettled_16 : decode cX6_bestOfUnsettled 16 = .ok (.aload_n 0, 1) := by decide +kernel
theorem dX6_bestOfUnsettled_17 : decode cX6_bestOfUnsettled 17 = .ok (.getfield 53, 3) := by decide +kernel
theorem dX6_bestOfUnsettled_20 : decode cX6_bestOfUnsettled 20 = .ok (.iconst 0, 1) := by decide +kernel
theorem dX6_bestOfUnsettled_21 : decode cX6_bestOfUnsettled 21 = .ok (.iastore, 1) := by decide +kernel
theorem dX6_bestOfUnsettled_22 : decode cX6_bestOfUnsettled 22 = .ok (.iinc 1 1, 3) := by decide +kernel
theorem dX6_bestOfUnsettled_25 : decode cX6_bestOfUnsettled 25 = .ok (.goto (-23), 3) := by decide +kernel
theorem dX6_bestOfUnsettled_28 : decode cX6_bestOfUnsettled 28 = .ok (.iconst 0, 1) := by decide +kernel
theorem dX6_bestOfUnsettled_29 : decode cX6_bestOfUnsettled 29 = .ok (.istore_n 1, 1) := by decide +kernel
theorem dX6_bestOfUnsettled_30 : decode cX6_bestOfUnsettled 30 = .ok (.iload_n 1, 1) := by decide +kernel
theorem dX6_bestOfUnsettled_31 : decode cX6_bestOfUnsettled 31 = .ok (.aload_n 0, 1) := by decide +kernel
theorem dX6_bestOfUnsettled_32 : decode cX6_bestOfUnsettled 32 = .ok (.getfield 53, 3) := by decide +kernel
theorem dX6_bestOfUnsettled_35 : decode cX6_bestOfUnsettled 35 = .ok (.if_icmp .gt 21, 3) := by decide +kernel
theorem dX6_bestOfUnsettled_38 : decode cX6_bestOfUnsettled 38 = .ok (.aload_n 0, 1) := by decide +kernel
theorem dX6_bestOfUnsettled_39 : decode cX6_bestOfUnsettled 39 = .ok (.getfield 16, 3) := by decide +kernel
theorem dX6_bestOfUnsettled_42 : decode cX6_bestOfUnsettled 42 = .ok (.aload_n 0, 1) := by decide +kernel
theorem dX6_bestOfUnsettled_43 : decode cX6_bestOfUnsettled 43 = .ok (.getfield 49, 3) := by decide +kernel
theorem dX6_bestOfUnsettled_46 : decode cX6_bestOfUnsettled 46 = .ok (.aaload, 1) := by decide +kernel
theorem dX6_bestOfUnsettled_47 : decode cX6_bestOfUnsettled 47 = .ok (.iload_n 1, 1) := by decide +kernel
theorem dX6_bestOfUnsettled_48 : decode cX6_bestOfUnsettled 48 = .ok (.iconst 0, 1) := by decide +kernel
theorem dX6_bestOfUnsettled_49 : decode cX6_bestOfUnsettled 49 = .ok (.iastore, 1) := by decide +kernel
theorem dX6_bestOfUnsettled_50 : decode cX6_bestOfUnsettled 50 = .ok (.iinc 1 1, 3) := by decide +kernel
theorem dX6_bestOfUnsettled_53 : decode cX6_bestOfUnsettled 53 = .ok (.goto (-23), 3) := by decide +kernel
theorem dX6_bestOfUnsettled_56 : decode cX6_bestOfUnsettled 56 = .ok (.aload_n 0, 1) := by decide +kernel
theorem dX6_bestOfUnsettled_57 : decode cX6_bestOfUnsettled 57 = .ok (.getfield 49, 3) := by decide +kernel
theorem dX6_bestOfUnsettled_60 : decode cX6_bestOfUnsettled 60 = .ok (.iconst 1, 1) := by decide +kernel
theorem dX6_bestOfUnsettled_61 : decode cX6_bestOfUnsettled 61 = .ok (.isub, 1) := by decide +kernel
theorem dX6_bestOfUnsettled_62 : decode cX6_bestOfUnsettled 62 = .ok (.istore_n 1, 1) := by decide +kernel
theorem dX6_bestOfUnsettled_63 : decode cX6_bestOfUnsettled 63 = .ok (.iload_n 1, 1) := by decide +kernel
theorem dX6_bestOfUnsettled_64 : decode cX6_bestOfUnsettled 64 = .ok (.ifCond .lt 136, 3) := by decide +kernel
theorem dX6_bestOfUnsettled_67 : decode cX6_bestOfUnsettled 67 = .ok (.aload_n 0, 1) := by decide +kernel
theorem dX6_bestOfUnsettled_68 : decode cX6_bestOfUnsettled 68 = .ok (.getfield 19, 3) := by decide +kernel
theorem dX6_bestOfUnsettled_71 : decode cX6_bestOfUnsettled 71 = .ok (.iload_n 1, 1) := by decide +kernel
theorem dX6_bestOfUnsettled_72 : decode cX6_bestOfUnsettled 72 = .ok (.iaload, 1) := by decide +kernel
theorem dX6_bestOfUnsettled_73 : decode cX6_bestOfUnsettled 73 = .ok (.istore_n 2, 1) := by decide +kernel
theorem dX6_bestOfUnsettled_74 : decode cX6_bestOfUnsettled 74 = .ok (.aload_n 0, 1) := by decide +kernel
theorem dX6_bestOfUnsettled_75 : decode cX6_bestOfUnsettled 75 = .ok (.getfield 53, 3) := by decide +kernel
theorem dX6_bestOfUnsettled_78 : decode cX6_bestOfUnsettled 78 = .ok (.iconst 1, 1) := by decide +kernel
theorem dX6_bestOfUnsettled_79 : decode cX6_bestOfUnsettled 79 = .ok (.isub, 1) := by decide +kernel
theorem dX6_bestOfUnsettled_80 : decode cX6_bestOfUnsettled 80 = .ok (.istore_n 3, 1) := by decide +kernel
theorem dX6_bestOfUnsettled_81 : decode cX6_bestOfUnsettled 81 = .ok (.iload_n 3, 1) := by decide +kernel
theorem dX6_bestOfUnsettled_82 : decode cX6_bestOfUnsettled 82 = .ok (.ifCond .lt 112, 3) := by decide +kernel
theorem dX6_bestOfUnsettled_85 : decode cX6_bestOfUnsettled 85 = .ok (.aload_n 0, 1) := by decide +kernel
theorem dX6_bestOfUnsettled_86 : decode cX6_bestOfUnsettled 86 = .ok (.getfield 23, 3) := by decide +kernel
theorem dX6_bestOfUnsettled_89 : decode cX6_bestOfUnsettled 89 = .ok (.iload_n 3, 1) := by decide +kernel
theorem dX6_bestOfUnsettled_90 : decode cX6_bestOfUnsettled 90 = .ok (.iaload, 1) := by decide +kernel
theorem dX6_bestOfUnsettled_91 : decode cX6_bestOfUnsettled 91 = .ok (.istore 4, 2) := by decide +kernel
theorem dX6_bestOfUnsettled_93 : decode cX6_bestOfUnsettled 93 = .ok (.aload_n 0, 1) := by decide +kernel
theorem dX6_bestOfUnsettled_94 : decode cX6_bestOfUnsettled 94 = .ok (.getfield 16, 3) := by decide +kernel
theorem dX6_bestOfUnsettled_97 : decode cX6_bestOfUnsettled 97 = .ok (.iload_n 1, 1) := by decide +kernel
theorem dX6_bestOfUnsettled_98 : decode cX6_bestOfUnsettled 98 = .ok (.iconst 1, 1) := by decide +kernel
theorem dX6_bestOfUnsettled_99 : decode cX6_bestOfUnsettled 99 = .ok (.iadd, 1) := by decide +kernel
theorem dX6_bestOfUnsettled_100 : decode cX6_bestOfUnsettled 100 = .ok (.aaload, 1) := by decide +kernel
theorem dX6_bestOfUnsettled_101 : decode cX6_bestOfUnsettled 101 = .ok (.iload_n 3, 1) := by decide +kernel
theorem dX6_bestOfUnsettled_102 : decode cX6_bestOfUnsettled 102 = .ok (.iaload, 1) := by decide +kernel
theorem dX6_bestOfUnsettled_103 : decode cX6_bestOfUnsettled 103 = .ok (.aload_n 0, 1) := by decide +kernel
theorem dX6_bestOfUnsettled_104 : decode cX6_bestOfUnsettled 104 = .ok (.getfield 16, 3) := by decide +kernel
theorem dX6_bestOfUnsettled_107 : decode cX6_bestOfUnsettled 107 = .ok (.iload_n 1, 1) := by decide +kernel
theorem dX6_bestOfUnsettled_108 : decode cX6_bestOfUnsettled 108 = .ok (.aaload, 1) := by decide +kernel
theorem dX6_bestOfUnsettled_109 : decode cX6_bestOfUnsettled 109 = .ok (.iload_n 3, 1) := by decide +kernel
theorem dX6_bestOfUnsettled_110 : decode cX6_bestOfUnsettled 110 = .ok (.iconst 1, 1) := by decide +kernel
theorem dX6_bestOfUnsettled_111 : decode cX6_bestOfUnsettled 111 = .ok (.iadd, 1) := by decide +kernel
theorem dX6_bestOfUnsettled_112 : decode cX6_bestOfUnsettled 112 = .ok (.iaload, 1) := by decide +kernel
theorem dX6_bestOfUnsettled_113 : decode cX6_bestOfUnsettled 113 = .ok (.invokestatic 131, 3) := by decide +kernel
theorem dX6_bestOfUnsettled_116 : decode cX6_bestOfUnsettled 116 = .ok (.istore 5, 2) := by decide +kernel
theorem dX6_bestOfUnsettled_118 : decode cX6_bestOfUnsettled 118 = .ok (.aload_n 0, 1) := by decide +kernel
theorem dX6_bestOfUnsettled_119 : decode cX6_bestOfUnsettled 119 = .ok (.getfield 11, 3) := by decide +kernel
theorem dX6_bestOfUnsettled_122 : decode cX6_bestOfUnsettled 122 = .ok (.iload_n 2, 1) := by decide +kernel
theorem dX6_bestOfUnsettled_123 : decode cX6_bestOfUnsettled 123 = .ok (.aaload, 1) := by decide +kernel
theorem dX6_bestOfUnsettled_124 : decode cX6_bestOfUnsettled 124 = .ok (.iload 4, 2) := by decide +kernel
theorem dX6_bestOfUnsettled_126 : decode cX6_bestOfUnsettled 126 = .ok (.iaload, 1) := by decide +kernel
theorem dX6_bestOfUnsettled_127 : decode cX6_bestOfUnsettled 127 = .ok (.ifCond .le 51, 3) := by decide +kernel
theorem dX6_bestOfUnsettled_130 : decode cX6_bestOfUnsettled 130 = .ok (.aload_n 0, 1) := by decide +kernel
theorem dX6_bestOfUnsettled_131 : decode cX6_bestOfUnsettled 131 = .ok (.getfield 26, 3) := by decide +kernel
theorem dX6_bestOfUnsettled_134 : decode cX6_bestOfUnsettled 134 = .ok (.iload_n 2, 1) := by decide +kernel
theorem dX6_bestOfUnsettled_135 : decode cX6_bestOfUnsettled 135 = .ok (.baload, 1) := by decide +kernel
theorem dX6_bestOfUnsettled_136 : decode cX6_bestOfUnsettled 136 = .ok (.ifCond .ne 42, 3) := by decide +kernel
theorem dX6_bestOfUnsettled_139 : decode cX6_bestOfUnsettled 139 = .ok (.aload_n 0, 1) := by decide +kernel
theorem dX6_bestOfUnsettled_140 : decode cX6_bestOfUnsettled 140 = .ok (.getfield 30, 3) := by decide +kernel
theorem dX6_bestOfUnsettled_143 : decode cX6_bestOfUnsettled 143 = .ok (.iload 4, 2) := by decide +kernel
theorem dX6_bestOfUnsettled_145 : decode cX6_bestOfUnsettled 145 = .ok (.baload, 1) := by decide +kernel
theorem dX6_bestOfUnsettled_146 : decode cX6_bestOfUnsettled 146 = .ok (.ifCond .ne 32, 3) := by decide +kernel
theorem dX6_bestOfUnsettled_149 : decode cX6_bestOfUnsettled 149 = .ok (.iload 5, 2) := by decide +kernel
theorem dX6_bestOfUnsettled_151 : decode cX6_bestOfUnsettled 151 = .ok (.aload_n 0, 1) := by decide +kernel
theorem dX6_bestOfUnsettled_152 : decode cX6_bestOfUnsettled 152 = .ok (.getfield 16, 3) := by decide +kernel
theorem dX6_bestOfUnsettled_155 : decode cX6_bestOfUnsettled 155 = .ok (.iload_n 1, 1) := by decide +kernel
theorem dX6_bestOfUnsettled_156 : decode cX6_bestOfUnsettled 156 = .ok (.iconst 1, 1) := by decide +kernel
theorem dX6_bestOfUnsettled_157 : decode cX6_bestOfUnsettled 157 = .ok (.iadd, 1) := by decide +kernel
theorem dX6_bestOfUnsettled_158 : decode cX6_bestOfUnsettled 158 = .ok (.aaload, 1) := by decide +kernel
theorem dX6_bestOfUnsettled_159 : decode cX6_bestOfUnsettled 159 = .ok (.iload_n 3, 1) := by decide +kernel
theorem dX6_bestOfUnsettled_160 : decode cX6_bestOfUnsettled 160 = .ok (.iconst 1, 1) := by decide +kernel
theorem dX6_bestOfUnsettled_161 : decode cX6_bestOfUnsettled 161 = .ok (.iadd, 1) := by decide +kernel
theorem dX6_bestOfUnsettled_162 : decode cX6_bestOfUnsettled 162 = .ok (.iaload, 1) := by decide +kernel
theorem dX6_bestOfUnsettled_163 : decode cX6_bestOfUnsettled 163 = .ok (.aload_n 0, 1) := by decide +kernel
theorem dX6_bestOfUnsettled_164 : decode cX6_bestOfUnsettled 164 = .ok (.getfield 11, 3) := by decide +kernel
theorem dX6_bestOfUnsettled_167 : decode cX6_bestOfUnsettled 167 = .ok (.iload_n 2, 1) := by decide +kernel
theorem dX6_bestOfUnsettled_168 : decode cX6_bestOfUnsettled 168 = .ok (.aaload, 1) := by decide +kernel
theorem dX6_bestOfUnsettled_169 : decode cX6_bestOfUnsettled 169 = .ok (.iload 4, 2) := by decide +kernel
theorem dX6_bestOfUnsettled_171 : decode cX6_bestOfUnsettled 171 = .ok (.iaload, 1) := by decide +kernel
theorem dX6_bestOfUnsettled_172 : decode cX6_bestOfUnsettled 172 = .ok (.iadd, 1) := by decide +kernel
theorem dX6_bestOfUnsettled_173 : decode cX6_bestOfUnsettled 173 = .ok (.invokestatic 131, 3) := by decide +kernel
theorem dX6_bestOfUnsettled_176 : decode cX6_bestOfUnsettled 176 = .ok (.istore 5, 2) := by decide +kernel
theorem dX6_bestOfUnsettled_178 : decode cX6_bestOfUnsettled 178 = .ok (.aload_n 0, 1) := by decide +kernel
theorem dX6_bestOfUnsettled_179 : decode cX6_bestOfUnsettled 179 = .ok (.getfield 16, 3) := by decide +kernel
theorem dX6_bestOfUnsettled_182 : decode cX6_bestOfUnsettled 182 = .ok (.iload_n 1, 1) := by decide +kernel
theorem dX6_bestOfUnsettled_183 : decode cX6_bestOfUnsettled 183 = .ok (.aaload, 1) := by decide +kernel
theorem dX6_bestOfUnsettled_184 : decode cX6_bestOfUnsettled 184 = .ok (.iload_n 3, 1) := by decide +kernel
theorem dX6_bestOfUnsettled_185 : decode cX6_bestOfUnsettled 185 = .ok (.iload 5, 2) := by decide +kernel
theorem dX6_bestOfUnsettled_187 : decode cX6_bestOfUnsettled 187 = .ok (.iastore, 1) := by decide +kernel
theorem dX6_bestOfUnsettled_188 : decode cX6_bestOfUnsettled 188 = .ok (.iinc 3 (-1), 3) := by decide +kernel
theorem dX6_bestOfUnsettled_191 : decode cX6_bestOfUnsettled 191 = .ok (.goto (-110), 3) := by decide +kernel
theorem dX6_bestOfUnsettled_194 : decode cX6_bestOfUnsettled 194 = .ok (.iinc 1 (-1), 3) := by decide +kernel
theorem dX6_bestOfUnsettled_197 : decode cX6_bestOfUnsettled 197 = .ok (.goto (-134), 3) := by decide +kernel
theorem dX6_bestOfUnsettled_200 : decode cX6_bestOfUnsettled 200 = .ok (.aload_n 0, 1) := by decide +kernel
theorem dX6_bestOfUnsettled_201 : decode cX6_bestOfUnsettled 201 = .ok (.getfield 16, 3) := by decide +kernel
theorem dX6_bestOfUnsettled_204 : decode cX6_bestOfUnsettled 204 = .ok (.iconst 0, 1) := by decide +kernel
theorem dX6_bestOfUnsettled_205 : decode cX6_bestOfUnsettled 205 = .ok (.aaload, 1) := by decide +kernel
theorem dX6_bestOfUnsettled_206 : decode cX6_bestOfUnsettled 206 = .ok (.iconst 0, 1) := by decide +kernel
theorem dX6_bestOfUnsettled_207 : decode cX6_bestOfUnsettled 207 = .ok (.iaload, 1) := by decide +kernel
theorem dX6_bestOfUnsettled_208 : decode cX6_bestOfUnsettled 208 = .ok (.ireturn, 1) := by decide +kernel
theorem dX6_firstMate_0 : decode cX6_firstMate 0 = .ok (.iload_n 1, 1) := by decide +kernel
theorem dX6_firstMate_1 : decode cX6_firstMate 1 = .ok (.ifCond .lt 9, 3) := by decide +kernel
theorem dX6_firstMate_4 : decode cX6_firstMate 4 = .ok (.iload_n 1, 1) := by decide +kernel
theorem dX6_firstMate_5 : decode cX6_firstMate 5 = .ok (.bipush 16, 2) := by decide +kernel
theorem dX6_firstMate_7 : decode cX6_firstMate 7 = .ok (.if_icmp .lt 5, 3) := by decide +kernel
theorem dX6_firstMate_10 : decode cX6_firstMate 10 = .ok (.iconst (-1), 1) := by decide +kernel
theorem dX6_firstMate_11 : decode cX6_firstMate 11 = .ok (.ireturn, 1) := by decide +kernel
theorem dX6_firstMate_12 : decode cX6_firstMate 12 = .ok (.aload_n 0, 1) := by decide +kernel
theorem dX6_firstMate_13 : decode cX6_firstMate 13 = .ok (.getfield 26, 3) := by decide +kernel
theorem dX6_firstMate_16 : decode cX6_firstMate 16 = .ok (.iload_n 1, 1) := by decide +kernel
theorem dX6_firstMate_17 : decode cX6_firstMate 17 = .ok (.iconst 1, 1) := by decide +kernel
theorem dX6_firstMate_18 : decode cX6_firstMate 18 = .ok (.bastore, 1) := by decide +kernel
theorem dX6_firstMate_19 : decode cX6_firstMate 19 = .ok (.iconst 0, 1) := by decide +kernel
theorem dX6_firstMate_20 : decode cX6_firstMate 20 = .ok (.istore_n 3, 1) := by decide +kernel
theorem dX6_firstMate_21 : decode cX6_firstMate 21 = .ok (.iload_n 3, 1) := by decide +kernel
theorem dX6_firstMate_22 : decode cX6_firstMate 22 = .ok (.bipush 16, 2) := by decide +kernel
theorem dX6_firstMate_24 : decode cX6_firstMate 24 = .ok (.if_icmp .ge 65, 3) := by decide +kernel
theorem dX6_firstMate_27 : decode cX6_firstMate 27 = .ok (.aload_n 0, 1) := by decide +kernel
theorem dX6_firstMate_28 : decode cX6_firstMate 28 = .ok (.getfield 11, 3) := by decide +kernel
theorem dX6_firstMate_31 : decode cX6_firstMate 31 = .ok (.iload_n 1, 1) := by decide +kernel
theorem dX6_firstMate_32 : decode cX6_firstMate 32 = .ok (.aaload, 1) := by decide +kernel
theorem dX6_firstMate_33 : decode cX6_firstMate 33 = .ok (.iload_n 3, 1) := by decide +kernel
theorem dX6_firstMate_34 : decode cX6_firstMate 34 = .ok (.iaload, 1) := by decide +kernel
theorem dX6_firstMate_35 : decode cX6_firstMate 35 = .ok (.ifCond .eq 48, 3) := by decide +kernel
theorem dX6_firstMate_38 : decode cX6_firstMate 38 = .ok (.aload_n 0, 1) := by decide +kernel
theorem dX6_firstMate_39 : decode cX6_firstMate 39 = .ok (.getfield 30, 3) := by decide +kernel
theorem dX6_firstMate_42 : decode cX6_firstMate 42 = .ok (.iload_n 3, 1) := by decide +kernel
theorem dX6_firstMate_43 : decode cX6_firstMate 43 = .ok (.baload, 1) := by decide +kernel
theorem dX6_firstMate_44 : decode cX6_firstMate 44 = .ok (.ifCond .eq 6, 3) := by decide +kernel
theorem dX6_firstMate_47 : decode cX6_firstMate 47 = .ok (.goto 36, 3) := by decide +kernel
theorem dX6_firstMate_50 : decode cX6_firstMate 50 = .ok (.aload_n 0, 1) := by decide +kernel
theorem dX6_firstMate_51 : decode cX6_firstMate 51 = .ok (.getfield 30, 3) := by decide +kernel
theorem dX6_firstMate_54 : decode cX6_firstMate 54 = .ok (.iload_n 3, 1) := by decide +kernel
theorem dX6_firstMate_55 : decode cX6_firstMate 55 = .ok (.iconst 1, 1) := by decide +kernel
theorem dX6_firstMate_56 : decode cX6_firstMate 56 = .ok (.bastore, 1) := by decide +kernel
theorem dX6_firstMate_57 : decode cX6_firstMate 57 = .ok (.aload_n 0, 1) := by decide +kernel
theorem dX6_firstMate_58 : decode cX6_firstMate 58 = .ok (.invokevirtual 63, 3) := by decide +kernel
theorem dX6_firstMate_61 : decode cX6_firstMate 61 = .ok (.aload_n 0, 1) := by decide +kernel
theorem dX6_firstMate_62 : decode cX6_firstMate 62 = .ok (.getfield 11, 3) := by decide +kernel
theorem dX6_firstMate_65 : decode cX6_firstMate 65 = .ok (.iload_n 1, 1) := by decide +kernel
theorem dX6_firstMate_66 : decode cX6_firstMate 66 = .ok (.aaload, 1) := by decide +kernel
theorem dX6_firstMate_67 : decode cX6_firstMate 67 = .ok (.iload_n 3, 1) := by decide +kernel
theorem dX6_firstMate_68 : decode cX6_firstMate 68 = .ok (.iaload, 1) := by decide +kernel
theorem dX6_firstMate_69 : decode cX6_firstMate 69 = .ok (.iadd, 1) := by decide +kernel
theorem dX6_firstMate_70 : decode cX6_firstMate 70 = .ok (.iload_n 2, 1) := by decide +kernel
theorem dX6_firstMate_71 : decode cX6_firstMate 71 = .ok (.if_icmp .ne 5, 3) := by decide +kernel
theorem dX6_firstMate_74 : decode cX6_firstMate 74 = .ok (.iload_n 3, 1) := by decide +kernel
theorem dX6_firstMate_75 : decode cX6_firstMate 75 = .ok (.ireturn, 1) := by decide +kernel
theorem dX6_firstMate_76 : decode cX6_firstMate 76 = .ok (.aload_n 0, 1) := by decide +kernel
theorem dX6_firstMate_77 : decode cX6_firstMate 77 = .ok (.getfield 30, 3) := by decide +kernel
theorem dX6_firstMate_80 : decode cX6_firstMate 80 = .ok (.iload_n 3, 1) := by decide +kernel
theorem dX6_firstMate_81 : decode cX6_firstMate 81 = .ok (.iconst 0, 1) := by decide +kernel
theorem dX6_firstMate_82 : decode cX6_firstMate 82 = .ok (.bastore, 1) := by decide +kernel
theorem dX6_firstMate_83 : decode cX6_firstMate 83 = .ok (.iinc 3 1, 3) := by decide +kernel
theorem dX6_firstMate_86 : decode cX6_firstMate 86 = .ok (.goto (-65), 3) := by decide +kernel
theorem dX6_firstMate_89 : decode cX6_firstMate 89 = .ok (.iconst (-1), 1) := by decide +kernel
theorem dX6_firstMate_90 : decode cX6_firstMate 90 = .ok (.ireturn, 1) := by decide +kernel
theorem dX7_init_0 : decode cX7_init 0 = .ok (.aload_n 0, 1) := by decide +kernel
theorem dX7_init_1 : decode cX7_init 1 = .ok (.invokespecial 3, 3) := by decide +kernel
theorem dX7_init_4 : decode cX7_init 4 = .ok (.aload_n 0, 1) := by decide +kernel
theorem dX7_init_5 : decode cX7_init 5 = .ok (.bipush 12, 2) := by decide +kernel
theorem dX7_init_7 : decode cX7_init 7 = .ok (.anewarray 9, 3) := by decide +kernel
theorem dX7_init_10 : decode cX7_init 10 = .ok (.putfield 11, 3) := by decide +kernel
theorem dX7_init_13 : decode cX7_init 13 = .ok (.return_, 1) := by decide +kernel
theorem dX7_add_0 : decode cX7_add 0 = .ok (.aload_n 0, 1) := by decide +kernel
theorem dX7_add_1 : decode cX7_add 1 = .ok (.getfield 17, 3) := by decide +kernel
theorem dX7_add_4 : decode cX7_add 4 = .ok (.bipush 12, 2) := by decide +kernel
theorem dX7_add_6 : decode cX7_add 6 = .ok (.if_icmp .lt 5, 3) := by decide +kernel
theorem dX7_add_9 : decode cX7_add 9 = .ok (.iconst (-1), 1) := by decide +kernel
theorem dX7_add_10 : decode cX7_add 10 = .ok (.ireturn, 1) := by decide +kernel
theorem dX7_add_11 : decode cX7_add 11 = .ok (.aload_n 0, 1) := by decide +kernel
theorem dX7_add_12 : decode cX7_add 12 = .ok (.getfield 11, 3) := by decide +kernel
theorem dX7_add_15 : decode cX7_add 15 = .ok (.aload_n 0, 1) := by decide +kernel
theorem dX7_add_16 : decode cX7_add 16 = .ok (.getfield 17, 3) := by decide +kernel
theorem dX7_add_19 : decode cX7_add 19 = .ok (.aload_n 1, 1) := by decide +kernel
theorem dX7_add_20 : decode cX7_add 20 = .ok (.aastore, 1) := by decide +kernel
theorem dX7_add_21 : decode cX7_add 21 = .ok (.aload_n 0, 1) := by decide +kernel
theorem dX7_add_22 : decode cX7_add 22 = .ok (.dup, 1) := by decide +kernel
theorem dX7_add_23 : decode cX7_add 23 = .ok (.getfield 17, 3) := by decide +kernel
theorem dX7_add_26 : decode cX7_add 26 = .ok (.iconst 1, 1) := by decide +kernel
theorem dX7_add_27 : decode cX7_add 27 = .ok (.iadd, 1) := by decide +kernel
theorem dX7_add_28 : decode cX7_add 28 = .ok (.putfield 17, 3) := by decide +kernel
theorem dX7_add_31 : decode cX7_add 31 = .ok (.aload_n 0, 1) := by decide +kernel
theorem dX7_add_32 : decode cX7_add 32 = .ok (.getfield 17, 3) := by decide +kernel
theorem dX7_add_35 : decode cX7_add 35 = .ok (.iconst 1, 1) := by decide +kernel
theorem dX7_add_36 : decode cX7_add 36 = .ok (.isub, 1) := by decide +kernel
theorem dX7_add_37 : decode cX7_add 37 = .ok (.ireturn, 1) := by decide +kernel
theorem dX7_at_0 : decode cX7_at 0 = .ok (.iload_n 1, 1) := by decide +kernel
theorem dX7_at_1 : decode cX7_at 1 = .ok (.ifCond .lt 20, 3) := by decide +kernel
theorem dX7_at_4 : decode cX7_at 4 = .ok (.iload_n 1, 1) := by decide +kernel
theorem dX7_at_5 : decode cX7_at 5 = .ok (.aload_n 0, 1) := by decide +kernel
theorem dX7_at_6 : decode cX7_at 6 = .ok (.getfield 17, 3) := by decide +kernel
theorem dX7_at_9 : decode cX7_at 9 = .ok (.if_icmp .ge 12, 3) := by decide +kernel
theorem dX7_at_12 : decode cX7_at 12 = .ok (.aload_n 0, 1) := by decide +kernel
theorem dX7_at_13 : decode cX7_at 13 = .ok (.getfield 11, 3) := by decide +kernel
theorem dX7_at_16 : decode cX7_at 16 = .ok (.iload_n 1, 1) := by decide +kernel
theorem dX7_at_17 : decode cX7_at 17 = .ok (.aaload, 1) := by decide +kernel
theorem dX7_at_18 : decode cX7_at 18 = .ok (.goto 4, 3) := by decide +kernel
theorem dX7_at_21 : decode cX7_at 21 = .ok (.aconst_null, 1) := by decide +kernel
theorem dX7_at_22 : decode cX7_at 22 = .ok (.areturn, 1) := by decide +kernel
theorem dX7_withLogAt_0 : decode cX7_withLogAt 0 = .ok (.aload_n 0, 1) := by decide +kernel
theorem dX7_withLogAt_1 : decode cX7_withLogAt 1 = .ok (.iload_n 1, 1) := by decide +kernel
theorem dX7_withLogAt_2 : decode cX7_withLogAt 2 = .ok (.invokevirtual 21, 3) := by decide +kernel
theorem dX7_withLogAt_5 : decode cX7_withLogAt 5 = .ok (.astore_n 2, 1) := by decide +kernel
theorem dX7_withLogAt_6 : decode cX7_withLogAt 6 = .ok (.aload_n 2, 1) := by decide +kernel
theorem dX7_withLogAt_7 : decode cX7_withLogAt 7 = .ok (.ifnull 14, 3) := by decide +kernel
theorem dX7_withLogAt_10 : decode cX7_withLogAt 10 = .ok (.aload_n 2, 1) := by decide +kernel
theorem dX7_withLogAt_11 : decode cX7_withLogAt 11 = .ok (.invokevirtual 25, 3) := by decide +kernel
theorem dX7_withLogAt_14 : decode cX7_withLogAt 14 = .ok (.ifCond .eq 7, 3) := by decide +kernel
theorem dX7_withLogAt_17 : decode cX7_withLogAt 17 = .ok (.aload_n 2, 1) := by decide +kernel
theorem dX7_withLogAt_18 : decode cX7_withLogAt 18 = .ok (.goto 4, 3) := by decide +kernel
theorem dX7_withLogAt_21 : decode cX7_withLogAt 21 = .ok (.aconst_null, 1) := by decide +kernel
theorem dX7_withLogAt_22 : decode cX7_withLogAt 22 = .ok (.areturn, 1) := by decide +kernel
theorem dX7_numberOf_0 : decode cX7_numberOf 0 = .ok (.iconst 0, 1) := by decide +kernel
theorem dX7_numberOf_1 : decode cX7_numberOf 1 = .ok (.istore_n 3, 1) := by decide +kernel
theorem dX7_numberOf_2 : decode cX7_numberOf 2 = .ok (.iload_n 3, 1) := by decide +kernel
theorem dX7_numberOf_3 : decode cX7_numberOf 3 = .ok (.aload_n 0, 1) := by decide +kernel
theorem dX7_numberOf_4 : decode cX7_numberOf 4 = .ok (.getfield 17, 3) := by decide +kernel
theorem dX7_numberOf_7 : decode cX7_numberOf 7 = .ok (.if_icmp .ge 25, 3) := by decide +kernel
theorem dX7_numberOf_10 : decode cX7_numberOf 10 = .ok (.aload_n 0, 1) := by decide +kernel
theorem dX7_numberOf_11 : decode cX7_numberOf 11 = .ok (.getfield 11, 3) := by decide +kernel
theorem dX7_numberOf_14 : decode cX7_numberOf 14 = .ok (.iload_n 3, 1) := by decide +kernel
theorem dX7_numberOf_15 : decode cX7_numberOf 15 = .ok (.aaload, 1) := by decide +kernel
theorem dX7_numberOf_16 : decode cX7_numberOf 16 = .ok (.getfield 29, 3) := by decide +kernel
theorem dX7_numberOf_19 : decode cX7_numberOf 19 = .ok (.lload_n 1, 1) := by decide +kernel
theorem dX7_numberOf_20 : decode cX7_numberOf 20 = .ok (.lcmp, 1) := by decide +kernel
theorem dX7_numberOf_21 : decode cX7_numberOf 21 = .ok (.ifCond .ne 5, 3) := by decide +kernel
theorem dX7_numberOf_24 : decode cX7_numberOf 24 = .ok (.iload_n 3, 1) := by decide +kernel
theorem dX7_numberOf_25 : decode cX7_numberOf 25 = .ok (.ireturn, 1) := by decide +kernel
theorem dX7_numberOf_26 : decode cX7_numberOf 26 = .ok (.iinc 3 1, 3) := by decide +kernel
theorem dX7_numberOf_29 : decode cX7_numberOf 29 = .ok (.goto (-27), 3) := by decide +kernel
theorem dX7_numberOf_32 : decode cX7_numberOf 32 = .ok (.iconst (-1), 1) := by decide +kernel
theorem dX7_numberOf_33 : decode cX7_numberOf 33 = .ok (.ireturn, 1) := by decide +kernel
theorem dX8_init_0 : decode cX8_init 0 = .ok (.aload_n 0, 1) := by decide +kernel
theorem dX8_init_1 : decode cX8_init 1 = .ok (.invokespecial 3, 3) := by decide +kernel
theorem dX8_init_4 : decode cX8_init 4 = .ok (.aload_n 0, 1) := by decide +kernel
theorem dX8_init_5 : decode cX8_init 5 = .ok (.aload_n 1, 1) := by decide +kernel
theorem dX8_init_6 : decode cX8_init 6 = .ok (.putfield 9, 3) := by decide +kernel
theorem dX8_init_9 : decode cX8_init 9 = .ok (.aload_n 0, 1) := by decide +kernel
theorem dX8_init_10 : decode cX8_init 10 = .ok (.aload_n 2, 1) := by decide +kernel
theorem dX8_init_11 : decode cX8_init 11 = .ok (.putfield 15, 3) := by decide +kernel
theorem dX8_init_14 : decode cX8_init 14 = .ok (.return_, 1) := by decide +kernel
theorem dX8_totalOf_0 : decode cX8_totalOf 0 = .ok (.iconst 0, 1) := by decide +kernel
theorem dX8_totalOf_1 : decode cX8_totalOf 1 = .ok (.istore_n 2, 1) := by decide +kernel
theorem dX8_totalOf_2 : decode cX8_totalOf 2 = .ok (.iconst 0, 1) := by decide +kernel
theorem dX8_totalOf_3 : decode cX8_totalOf 3 = .ok (.istore_n 3, 1) := by decide +kernel
theorem dX8_totalOf_4 : decode cX8_totalOf 4 = .ok (.iload_n 3, 1) := by decide +kernel
theorem dX8_totalOf_5 : decode cX8_totalOf 5 = .ok (.aload_n 0, 1) := by decide +kernel
theorem dX8_totalOf_6 : decode cX8_totalOf 6 = .ok (.getfield 9, 3) := by decide +kernel
theorem dX8_totalOf_9 : decode cX8_totalOf 9 = .ok (.getfield 19, 3) := by decide +kernel
theorem dX8_totalOf_12 : decode cX8_totalOf 12 = .ok (.if_icmp .ge 68, 3) := by decide +kernel
theorem dX8_totalOf_15 : decode cX8_totalOf 15 = .ok (.aload_n 0, 1) := by decide +kernel
theorem dX8_totalOf_16 : decode cX8_totalOf 16 = .ok (.getfield 9, 3) := by decide +kernel
theorem dX8_totalOf_19 : decode cX8_totalOf 19 = .ok (.iload_n 3, 1) := by decide +kernel
theorem dX8_totalOf_20 : decode cX8_totalOf 20 = .ok (.invokevirtual 25, 3) := by decide +kernel
theorem dX8_totalOf_23 : decode cX8_totalOf 23 = .ok (.astore 4, 2) := by decide +kernel
theorem dX8_totalOf_25 : decode cX8_totalOf 25 = .ok (.aload 4, 2) := by decide +kernel
theorem dX8_totalOf_27 : decode cX8_totalOf 27 = .ok (.ifnull 47, 3) := by decide +kernel
theorem dX8_totalOf_30 : decode cX8_totalOf 30 = .ok (.iload_n 3, 1) := by decide +kernel
theorem dX8_totalOf_31 : decode cX8_totalOf 31 = .ok (.iload_n 1, 1) := by decide +kernel
theorem dX8_totalOf_32 : decode cX8_totalOf 32 = .ok (.if_icmp .eq 15, 3) := by decide +kernel
theorem dX8_totalOf_35 : decode cX8_totalOf 35 = .ok (.aload 4, 2) := by decide +kernel
theorem dX8_totalOf_37 : decode cX8_totalOf 37 = .ok (.getfield 29, 3) := by decide +kernel
theorem dX8_totalOf_40 : decode cX8_totalOf 40 = .ok (.iload_n 1, 1) := by decide +kernel
theorem dX8_totalOf_41 : decode cX8_totalOf 41 = .ok (.if_icmp .eq 6, 3) := by decide +kernel
theorem dX8_totalOf_44 : decode cX8_totalOf 44 = .ok (.goto 30, 3) := by decide +kernel
theorem dX8_totalOf_47 : decode cX8_totalOf 47 = .ok (.aload_n 0, 1) := by decide +kernel
theorem dX8_totalOf_48 : decode cX8_totalOf 48 = .ok (.aload 4, 2) := by decide +kernel
theorem dX8_totalOf_50 : decode cX8_totalOf 50 = .ok (.invokevirtual 34, 3) := by decide +kernel
theorem dX8_totalOf_53 : decode cX8_totalOf 53 = .ok (.lstore 5, 2) := by decide +kernel
theorem dX8_totalOf_55 : decode cX8_totalOf 55 = .ok (.lload 5, 2) := by decide +kernel
theorem dX8_totalOf_57 : decode cX8_totalOf 57 = .ok (.ldc2_w 38, 3) := by decide +kernel
theorem dX8_totalOf_60 : decode cX8_totalOf 60 = .ok (.lcmp, 1) := by decide +kernel
theorem dX8_totalOf_61 : decode cX8_totalOf 61 = .ok (.ifCond .ne 7, 3) := by decide +kernel
theorem dX8_totalOf_64 : decode cX8_totalOf 64 = .ok (.ldc2_w 38, 3) := by decide +kernel
theorem dX8_totalOf_67 : decode cX8_totalOf 67 = .ok (.lreturn, 1) := by decide +kernel
theorem dX8_totalOf_68 : decode cX8_totalOf 68 = .ok (.iload_n 2, 1) := by decide +kernel
theorem dX8_totalOf_69 : decode cX8_totalOf 69 = .ok (.lload 5, 2) := by decide +kernel
theorem dX8_totalOf_71 : decode cX8_totalOf 71 = .ok (.l2i, 1) := by decide +kernel
theorem dX8_totalOf_72 : decode cX8_totalOf 72 = .ok (.iadd, 1) := by decide +kernel
theorem dX8_totalOf_73 : decode cX8_totalOf 73 = .ok (.istore_n 2, 1) := by decide +kernel
theorem dX8_totalOf_74 : decode cX8_totalOf 74 = .ok (.iinc 3 1, 3) := by decide +kernel
theorem dX8_totalOf_77 : decode cX8_totalOf 77 = .ok (.goto (-73), 3) := by decide +kernel
theorem dX8_totalOf_80 : decode cX8_totalOf 80 = .ok (.iload_n 2, 1) := by decide +kernel
theorem dX8_totalOf_81 : decode cX8_totalOf 81 = .ok (.i2l, 1) := by decide +kernel
theorem dX8_totalOf_82 : decode cX8_totalOf 82 = .ok (.lreturn, 1) := by decide +kernel
theorem dX8_ownTotal_0 : decode cX8_ownTotal 0 = .ok (.aload_n 0, 1) := by decide +kernel
theorem dX8_ownTotal_1 : decode cX8_ownTotal 1 = .ok (.aload_n 1, 1) := by decide +kernel
theorem dX8_ownTotal_2 : decode cX8_ownTotal 2 = .ok (.aload_n 1, 1) := by decide +kernel
theorem dX8_ownTotal_3 : decode cX8_ownTotal 3 = .ok (.getfield 40, 3) := by decide +kernel
theorem dX8_ownTotal_6 : decode cX8_ownTotal 6 = .ok (.iconst 2, 1) := by decide +kernel
theorem dX8_ownTotal_7 : decode cX8_ownTotal 7 = .ok (.if_icmp .ne 7, 3) := by decide +kernel
theorem dX8_ownTotal_10 : decode cX8_ownTotal 10 = .ok (.iconst 2, 1) := by decide +kernel
theorem dX8_ownTotal_11 : decode cX8_ownTotal 11 = .ok (.goto 4, 3) := by decide +kernel
theorem dX8_ownTotal_14 : decode cX8_ownTotal 14 = .ok (.iconst 1, 1) := by decide +kernel
theorem dX8_ownTotal_15 : decode cX8_ownTotal 15 = .ok (.invokevirtual 43, 3) := by decide +kernel
theorem dX8_ownTotal_18 : decode cX8_ownTotal 18 = .ok (.lstore_n 2, 1) := by decide +kernel
theorem dX8_ownTotal_19 : decode cX8_ownTotal 19 = .ok (.lload_n 2, 1) := by decide +kernel
theorem dX8_ownTotal_20 : decode cX8_ownTotal 20 = .ok (.ldc2_w 38, 3) := by decide +kernel
theorem dX8_ownTotal_23 : decode cX8_ownTotal 23 = .ok (.lcmp, 1) := by decide +kernel
theorem dX8_ownTotal_24 : decode cX8_ownTotal 24 = .ok (.ifCond .ne 7, 3) := by decide +kernel
theorem dX8_ownTotal_27 : decode cX8_ownTotal 27 = .ok (.ldc2_w 38, 3) := by decide +kernel
theorem dX8_ownTotal_30 : decode cX8_ownTotal 30 = .ok (.lreturn, 1) := by decide +kernel
theorem dX8_ownTotal_31 : decode cX8_ownTotal 31 = .ok (.aload_n 1, 1) := by decide +kernel
theorem dX8_ownTotal_32 : decode cX8_ownTotal 32 = .ok (.getfield 40, 3) := by decide +kernel
theorem dX8_ownTotal_35 : decode cX8_ownTotal 35 = .ok (.tableswitch 44 0 2 #[25, 27, 34], 25) := by decide +kernel
theorem dX8_ownTotal_60 : decode cX8_ownTotal 60 = .ok (.lload_n 2, 1) := by decide +kernel
theorem dX8_ownTotal_61 : decode cX8_ownTotal 61 = .ok (.lreturn, 1) := by decide +kernel
theorem dX8_ownTotal_62 : decode cX8_ownTotal 62 = .ok (.lload_n 2, 1) := by decide +kernel
theorem dX8_ownTotal_63 : decode cX8_ownTotal 63 = .ok (.l2i, 1) := by decide +kernel
theorem dX8_ownTotal_64 : decode cX8_ownTotal 64 = .ok (.invokestatic 47, 3) := by decide +kernel
theorem dX8_ownTotal_67 : decode cX8_ownTotal 67 = .ok (.i2l, 1) := by decide +kernel
theorem dX8_ownTotal_68 : decode cX8_ownTotal 68 = .ok (.lreturn, 1) := by decide +kernel
theorem dX8_ownTotal_69 : decode cX8_ownTotal 69 = .ok (.lload_n 2, 1) := by decide +kernel
theorem dX8_ownTotal_70 : decode cX8_ownTotal 70 = .ok (.l2i, 1) := by decide +kernel
theorem dX8_ownTotal_71 : decode cX8_ownTotal 71 = .ok (.invokestatic 47, 3) := by decide +kernel
theorem dX8_ownTotal_74 : decode cX8_ownTotal 74 = .ok (.bipush 50, 2) := by decide +kernel
theorem dX8_ownTotal_76 : decode cX8_ownTotal 76 = .ok (.iadd, 1) := by decide +kernel
theorem dX8_ownTotal_77 : decode cX8_ownTotal 77 = .ok (.i2l, 1) := by decide +kernel
theorem dX8_ownTotal_78 : decode cX8_ownTotal 78 = .ok (.lreturn, 1) := by decide +kernel
theorem dX8_ownTotal_79 : decode cX8_ownTotal 79 = .ok (.lconst 0, 1) := by decide +kernel
theorem dX8_ownTotal_80 : decode cX8_ownTotal 80 = .ok (.lreturn, 1) := by decide +kernel
theorem dX8_twoThirds_0 : decode cX8_twoThirds 0 = .ok (.iload_n 0, 1) := by decide +kernel
theorem dX8_twoThirds_1 : decode cX8_twoThirds 1 = .ok (.iconst 2, 1) := by decide +kernel
theorem dX8_twoThirds_2 : decode cX8_twoThirds 2 = .ok (.imul, 1) := by decide +kernel
theorem dX8_twoThirds_3 : decode cX8_twoThirds 3 = .ok (.iconst 3, 1) := by decide +kernel
theorem dX8_twoThirds_4 : decode cX8_twoThirds 4 = .ok (.idiv, 1) := by decide +kernel
theorem dX8_twoThirds_5 : decode cX8_twoThirds 5 = .ok (.ireturn, 1) := by decide +kernel
theorem dX8_checkedSum_0 : decode cX8_checkedSum 0 = .ok (.iconst 0, 1) := by decide +kernel
theorem dX8_checkedSum_1 : decode cX8_checkedSum 1 = .ok (.istore_n 3, 1) := by decide +kernel
theorem dX8_checkedSum_2 : decode cX8_checkedSum 2 = .ok (.iconst 0, 1) := by decide +kernel
theorem dX8_checkedSum_3 : decode cX8_checkedSum 3 = .ok (.istore 4, 2) := by decide +kernel
theorem dX8_checkedSum_5 : decode cX8_checkedSum 5 = .ok (.iconst 0, 1) := by decide +kernel
theorem dX8_checkedSum_6 : decode cX8_checkedSum 6 = .ok (.istore 5, 2) := by decide +kernel
theorem dX8_checkedSum_8 : decode cX8_checkedSum 8 = .ok (.iload 5, 2) := by decide +kernel
theorem dX8_checkedSum_10 : decode cX8_checkedSum 10 = .ok (.iconst 3, 1) := by decide +kernel
theorem dX8_checkedSum_11 : decode cX8_checkedSum 11 = .ok (.if_icmp .ge 149, 3) := by decide +kernel
theorem dX8_checkedSum_14 : decode cX8_checkedSum 14 = .ok (.aload_n 1, 1) := by decide +kernel
theorem dX8_checkedSum_15 : decode cX8_checkedSum 15 = .ok (.iload 5, 2) := by decide +kernel
theorem dX8_checkedSum_17 : decode cX8_checkedSum 17 = .ok (.invokevirtual 51, 3) := by decide +kernel
theorem dX8_checkedSum_20 : decode cX8_checkedSum 20 = .ok (.astore 6, 2) := by decide +kernel
theorem dX8_checkedSum_22 : decode cX8_checkedSum 22 = .ok (.lconst 0, 1) := by decide +kernel
theorem dX8_checkedSum_23 : decode cX8_checkedSum 23 = .ok (.lstore 7, 2) := by decide +kernel
theorem dX8_checkedSum_25 : decode cX8_checkedSum 25 = .ok (.iconst 0, 1) := by decide +kernel
theorem dX8_checkedSum_26 : decode cX8_checkedSum 26 = .ok (.istore 9, 2) := by decide +kernel
theorem dX8_checkedSum_28 : decode cX8_checkedSum 28 = .ok (.aload 6, 2) := by decide +kernel
theorem dX8_checkedSum_30 : decode cX8_checkedSum 30 = .ok (.ifnull 114, 3) := by decide +kernel
theorem dX8_checkedSum_33 : decode cX8_checkedSum 33 = .ok (.iload 9, 2) := by decide +kernel
theorem dX8_checkedSum_35 : decode cX8_checkedSum 35 = .ok (.aload 6, 2) := by decide +kernel
theorem dX8_checkedSum_37 : decode cX8_checkedSum 37 = .ok (.getfield 55, 3) := by decide +kernel
theorem dX8_checkedSum_40 : decode cX8_checkedSum 40 = .ok (.if_icmp .ge 104, 3) := by decide +kernel
theorem dX8_checkedSum_43 : decode cX8_checkedSum 43 = .ok (.aload 6, 2) := by decide +kernel
theorem dX8_checkedSum_45 : decode cX8_checkedSum 45 = .ok (.iload 9, 2) := by decide +kernel
theorem dX8_checkedSum_47 : decode cX8_checkedSum 47 = .ok (.invokevirtual 58, 3) := by decide +kernel
theorem dX8_checkedSum_50 : decode cX8_checkedSum 50 = .ok (.astore 10, 2) := by decide +kernel
theorem dX8_checkedSum_52 : decode cX8_checkedSum 52 = .ok (.aload 10, 2) := by decide +kernel
theorem dX8_checkedSum_54 : decode cX8_checkedSum 54 = .ok (.ifnull 26, 3) := by decide +kernel
theorem dX8_checkedSum_57 : decode cX8_checkedSum 57 = .ok (.aload 10, 2) := by decide +kernel
theorem dX8_checkedSum_59 : decode cX8_checkedSum 59 = .ok (.getfield 62, 3) := by decide +kernel
theorem dX8_checkedSum_62 : decode cX8_checkedSum 62 = .ok (.ifCond .ne 18, 3) := by decide +kernel
theorem dX8_checkedSum_65 : decode cX8_checkedSum 65 = .ok (.aload_n 0, 1) := by decide +kernel
theorem dX8_checkedSum_66 : decode cX8_checkedSum 66 = .ok (.getfield 9, 3) := by decide +kernel
theorem dX8_checkedSum_69 : decode cX8_checkedSum 69 = .ok (.aload 10, 2) := by decide +kernel
theorem dX8_checkedSum_71 : decode cX8_checkedSum 71 = .ok (.getfield 67, 3) := by decide +kernel
theorem dX8_checkedSum_74 : decode cX8_checkedSum 74 = .ok (.invokevirtual 25, 3) := by decide +kernel
theorem dX8_checkedSum_77 : decode cX8_checkedSum 77 = .ok (.goto 4, 3) := by decide +kernel
theorem dX8_checkedSum_80 : decode cX8_checkedSum 80 = .ok (.aconst_null, 1) := by decide +kernel
theorem dX8_checkedSum_81 : decode cX8_checkedSum 81 = .ok (.astore 11, 2) := by decide +kernel
theorem dX8_checkedSum_83 : decode cX8_checkedSum 83 = .ok (.aload 11, 2) := by decide +kernel
theorem dX8_checkedSum_85 : decode cX8_checkedSum 85 = .ok (.ifnonnull 6, 3) := by decide +kernel
theorem dX8_checkedSum_88 : decode cX8_checkedSum 88 = .ok (.goto 50, 3) := by decide +kernel
theorem dX8_checkedSum_91 : decode cX8_checkedSum 91 = .ok (.aload_n 0, 1) := by decide +kernel
theorem dX8_checkedSum_92 : decode cX8_checkedSum 92 = .ok (.getfield 15, 3) := by decide +kernel
theorem dX8_checkedSum_95 : decode cX8_checkedSum 95 = .ok (.iload 5, 2) := by decide +kernel
theorem dX8_checkedSum_97 : decode cX8_checkedSum 97 = .ok (.aload_n 1, 1) := by decide +kernel
theorem dX8_checkedSum_98 : decode cX8_checkedSum 98 = .ok (.aload 11, 2) := by decide +kernel
theorem dX8_checkedSum_100 : decode cX8_checkedSum 100 = .ok (.invokevirtual 70, 3) := by decide +kernel
theorem dX8_checkedSum_103 : decode cX8_checkedSum 103 = .ok (.lstore 12, 2) := by decide +kernel
theorem dX8_checkedSum_105 : decode cX8_checkedSum 105 = .ok (.lload 12, 2) := by decide +kernel
theorem dX8_checkedSum_107 : decode cX8_checkedSum 107 = .ok (.ldc2_w 38, 3) := by decide +kernel
theorem dX8_checkedSum_110 : decode cX8_checkedSum 110 = .ok (.lcmp, 1) := by decide +kernel
theorem dX8_checkedSum_111 : decode cX8_checkedSum 111 = .ok (.ifCond .ne 7, 3) := by decide +kernel
theorem dX8_checkedSum_114 : decode cX8_checkedSum 114 = .ok (.ldc2_w 38, 3) := by decide +kernel
theorem dX8_checkedSum_117 : decode cX8_checkedSum 117 = .ok (.lreturn, 1) := by decide +kernel
theorem dX8_checkedSum_118 : decode cX8_checkedSum 118 = .ok (.iload_n 3, 1) := by decide +kernel
theorem dX8_checkedSum_119 : decode cX8_checkedSum 119 = .ok (.iload_n 2, 1) := by decide +kernel
theorem dX8_checkedSum_120 : decode cX8_checkedSum 120 = .ok (.lload 12, 2) := by decide +kernel
theorem dX8_checkedSum_122 : decode cX8_checkedSum 122 = .ok (.l2i, 1) := by decide +kernel
theorem dX8_checkedSum_123 : decode cX8_checkedSum 123 = .ok (.imul, 1) := by decide +kernel
theorem dX8_checkedSum_124 : decode cX8_checkedSum 124 = .ok (.iadd, 1) := by decide +kernel
theorem dX8_checkedSum_125 : decode cX8_checkedSum 125 = .ok (.istore_n 3, 1) := by decide +kernel
theorem dX8_checkedSum_126 : decode cX8_checkedSum 126 = .ok (.lload 7, 2) := by decide +kernel
theorem dX8_checkedSum_128 : decode cX8_checkedSum 128 = .ok (.lconst 1, 1) := by decide +kernel
theorem dX8_checkedSum_129 : decode cX8_checkedSum 129 = .ok (.aload 11, 2) := by decide +kernel
theorem dX8_checkedSum_131 : decode cX8_checkedSum 131 = .ok (.getfield 76, 3) := by decide +kernel
theorem dX8_checkedSum_134 : decode cX8_checkedSum 134 = .ok (.lshl, 1) := by decide +kernel
theorem dX8_checkedSum_135 : decode cX8_checkedSum 135 = .ok (.lor, 1) := by decide +kernel
theorem dX8_checkedSum_136 : decode cX8_checkedSum 136 = .ok (.lstore 7, 2) := by decide +kernel
theorem dX8_checkedSum_138 : decode cX8_checkedSum 138 = .ok (.iinc 9 1, 3) := by decide +kernel
theorem dX8_checkedSum_141 : decode cX8_checkedSum 141 = .ok (.goto (-113), 3) := by decide +kernel
theorem dX8_checkedSum_144 : decode cX8_checkedSum 144 = .ok (.iload 4, 2) := by decide +kernel
theorem dX8_checkedSum_146 : decode cX8_checkedSum 146 = .ok (.lload 7, 2) := by decide +kernel
theorem dX8_checkedSum_148 : decode cX8_checkedSum 148 = .ok (.invokestatic 79, 3) := by decide +kernel
theorem dX8_checkedSum_151 : decode cX8_checkedSum 151 = .ok (.iadd, 1) := by decide +kernel
theorem dX8_checkedSum_152 : decode cX8_checkedSum 152 = .ok (.istore 4, 2) := by decide +kernel
theorem dX8_checkedSum_154 : decode cX8_checkedSum 154 = .ok (.iinc 5 1, 3) := by decide +kernel
theorem dX8_checkedSum_157 : decode cX8_checkedSum 157 = .ok (.goto (-149), 3) := by decide +kernel
theorem dX8_checkedSum_160 : decode cX8_checkedSum 160 = .ok (.iload_n 3, 1) := by decide +kernel
theorem dX8_checkedSum_161 : decode cX8_checkedSum 161 = .ok (.iload 4, 2) := by decide +kernel
theorem dX8_checkedSum_163 : decode cX8_checkedSum 163 = .ok (.imul, 1) := by decide +kernel
theorem dX8_checkedSum_164 : decode cX8_checkedSum 164 = .ok (.aload_n 0, 1) := by decide +kernel
theorem dX8_checkedSum_165 : decode cX8_checkedSum 165 = .ok (.getfield 85, 3) := by decide +kernel
theorem dX8_checkedSum_168 : decode cX8_checkedSum 168 = .ok (.aload_n 1, 1) := by decide +kernel
theorem dX8_checkedSum_169 : decode cX8_checkedSum 169 = .ok (.iconst 3, 1) := by decide +kernel
theorem dX8_checkedSum_170 : decode cX8_checkedSum 170 = .ok (.invokevirtual 88, 3) := by decide +kernel
theorem dX8_checkedSum_173 : decode cX8_checkedSum 173 = .ok (.imul, 1) := by decide +kernel
theorem dX8_checkedSum_174 : decode cX8_checkedSum 174 = .ok (.isub, 1) := by decide +kernel
theorem dX8_checkedSum_175 : decode cX8_checkedSum 175 = .ok (.i2l, 1) := by decide +kernel
theorem dX8_checkedSum_176 : decode cX8_checkedSum 176 = .ok (.lreturn, 1) := by decide +kernel
theorem dX9_init_0 : decode cX9_init 0 = .ok (.aload_n 0, 1) := by decide +kernel
theorem dX9_init_1 : decode cX9_init 1 = .ok (.invokespecial 3, 3) := by decide +kernel
theorem dX9_init_4 : decode cX9_init 4 = .ok (.aload_n 0, 1) := by decide +kernel
theorem dX9_init_5 : decode cX9_init 5 = .ok (.iconst 3, 1) := by decide +kernel
theorem dX9_init_6 : decode cX9_init 6 = .ok (.anewarray 9, 3) := by decide +kernel
theorem dX9_init_9 : decode cX9_init 9 = .ok (.putfield 11, 3) := by decide +kernel
theorem dX9_init_12 : decode cX9_init 12 = .ok (.aload_n 0, 1) := by decide +kernel
theorem dX9_init_13 : decode cX9_init 13 = .ok (.iconst (-1), 1) := by decide +kernel
theorem dX9_init_14 : decode cX9_init 14 = .ok (.putfield 17, 3) := by decide +kernel
theorem dX9_init_17 : decode cX9_init 17 = .ok (.aload_n 0, 1) := by decide +kernel
theorem dX9_init_18 : decode cX9_init 18 = .ok (.iload_n 1, 1) := by decide +kernel
theorem dX9_init_19 : decode cX9_init 19 = .ok (.putfield 21, 3) := by decide +kernel
theorem dX9_init_22 : decode cX9_init 22 = .ok (.aload_n 0, 1) := by decide +kernel
theorem dX9_init_23 : decode cX9_init 23 = .ok (.iload_n 2, 1) := by decide +kernel
theorem dX9_init_24 : decode cX9_init 24 = .ok (.putfield 24, 3) := by decide +kernel
theorem dX9_init_27 : decode cX9_init 27 = .ok (.aload_n 0, 1) := by decide +kernel
theorem dX9_init_28 : decode cX9_init 28 = .ok (.iload_n 3, 1) := by decide +kernel
theorem dX9_init_29 : decode cX9_init 29 = .ok (.putfield 27, 3) := by decide +kernel
theorem dX9_init_32 : decode cX9_init 32 = .ok (.aload_n 0, 1) := by decide +kernel
theorem dX9_init_33 : decode cX9_init 33 = .ok (.iload 4, 2) := by decide +kernel
theorem dX9_init_35 : decode cX9_init 35 = .ok (.putfield 30, 3) := by decide +kernel
theorem dX9_init_38 : decode cX9_init 38 = .ok (.aload_n 0, 1) := by decide +kernel
theorem dX9_init_39 : decode cX9_init 39 = .ok (.lload 5, 2) := by decide +kernel
theorem dX9_init_41 : decode cX9_init 41 = .ok (.putfield 33, 3) := by decide +kernel
theorem dX9_init_44 : decode cX9_init 44 = .ok (.iconst 0, 1) := by decide +kernel
theorem dX9_init_45 : decode cX9_init 45 = .ok (.istore 7, 2) := by decide +kernel
theorem dX9_init_47 : decode cX9_init 47 = .ok (.iload 7, 2) := by decide +kernel
theorem dX9_init_49 : decode cX9_init 49 = .ok (.iconst 3, 1) := by decide +kernel
theorem dX9_init_50 : decode cX9_init 50 = .ok (.if_icmp .ge 23, 3) := by decide +kernel
theorem dX9_init_53 : decode cX9_init 53 = .ok (.aload_n 0, 1) := by decide +kernel
theorem dX9_init_54 : decode cX9_init 54 = .ok (.getfield 11, 3) := by decide +kernel
theorem dX9_init_57 : decode cX9_init 57 = .ok (.iload 7, 2) := by decide +kernel
theorem dX9_init_59 : decode cX9_init 59 = .ok (.new 9, 3) := by decide +kernel
theorem dX9_init_62 : decode cX9_init 62 = .ok (.dup, 1) := by decide +kernel
theorem dX9_init_63 : decode cX9_init 63 = .ok (.invokespecial 37, 3) := by decide +kernel
theorem dX9_init_66 : decode cX9_init 66 = .ok (.aastore, 1) := by decide +kernel
theorem dX9_init_67 : decode cX9_init 67 = .ok (.iinc 7 1, 3) := by decide +kernel
theorem dX9_init_70 : decode cX9_init 70 = .ok (.goto (-23), 3) := by decide +kernel
theorem dX9_init_73 : decode cX9_init 73 = .ok (.return_, 1) := by decide +kernel
theorem dX9_logOf_0 : decode cX9_logOf 0 = .ok (.iload_n 1, 1) := by decide +kernel
theorem dX9_logOf_1 : decode cX9_logOf 1 = .ok (.ifCond .lt 17, 3) := by decide +kernel
theorem dX9_logOf_4 : decode cX9_logOf 4 = .ok (.iload_n 1, 1) := by decide +kernel
theorem dX9_logOf_5 : decode cX9_logOf 5 = .ok (.iconst 3, 1) := by decide +kernel
theorem dX9_logOf_6 : decode cX9_logOf 6 = .ok (.if_icmp .ge 12, 3) := by decide +kernel
theorem dX9_logOf_9 : decode cX9_logOf 9 = .ok (.aload_n 0, 1) := by decide +kernel
theorem dX9_logOf_10 : decode cX9_logOf 10 = .ok (.getfield 11, 3) := by decide +kernel
theorem dX9_logOf_13 : decode cX9_logOf 13 = .ok (.iload_n 1, 1) := by decide +kernel
theorem dX9_logOf_14 : decode cX9_logOf 14 = .ok (.aaload, 1) := by decide +kernel
theorem dX9_logOf_15 : decode cX9_logOf 15 = .ok (.goto 4, 3) := by decide +kernel
theorem dX9_logOf_18 : decode cX9_logOf 18 = .ok (.aconst_null, 1) := by decide +kernel
theorem dX9_logOf_19 : decode cX9_logOf 19 = .ok (.areturn, 1) := by decide +kernel
theorem dX9_putLog_0 : decode cX9_putLog 0 = .ok (.iload_n 1, 1) := by decide +kernel
theorem dX9_putLog_1 : decode cX9_putLog 1 = .ok (.ifCond .lt 8, 3) := by decide +kernel
theorem dX9_putLog_4 : decode cX9_putLog 4 = .ok (.iload_n 1, 1) := by decide +kernel
theorem dX9_putLog_5 : decode cX9_putLog 5 = .ok (.iconst 3, 1) := by decide +kernel
theorem dX9_putLog_6 : decode cX9_putLog 6 = .ok (.if_icmp .lt 5, 3) := by decide +kernel
theorem dX9_putLog_9 : decode cX9_putLog 9 = .ok (.aload_n 2, 1) := by decide +kernel
theorem dX9_putLog_10 : decode cX9_putLog 10 = .ok (.areturn, 1) := by decide +kernel
theorem dX9_putLog_11 : decode cX9_putLog 11 = .ok (.aload_n 0, 1) := by decide +kernel
theorem dX9_putLog_12 : decode cX9_putLog 12 = .ok (.getfield 11, 3) := by decide +kernel
theorem dX9_putLog_15 : decode cX9_putLog 15 = .ok (.iload_n 1, 1) := by decide +kernel
theorem dX9_putLog_16 : decode cX9_putLog 16 = .ok (.aaload, 1) := by decide +kernel
theorem dX9_putLog_17 : decode cX9_putLog 17 = .ok (.astore_n 3, 1) := by decide +kernel
theorem dX9_putLog_18 : decode cX9_putLog 18 = .ok (.aload_n 0, 1) := by decide +kernel
theorem dX9_putLog_19 : decode cX9_putLog 19 = .ok (.getfield 11, 3) := by decide +kernel
theorem dX9_putLog_22 : decode cX9_putLog 22 = .ok (.iload_n 1, 1) := by decide +kernel
theorem dX9_putLog_23 : decode cX9_putLog 23 = .ok (.aload_n 2, 1) := by decide +kernel
theorem dX9_putLog_24 : decode cX9_putLog 24 = .ok (.aastore, 1) := by decide +kernel
theorem dX9_putLog_25 : decode cX9_putLog 25 = .ok (.aload_n 3, 1) := by decide +kernel
theorem dX9_putLog_26 : decode cX9_putLog 26 = .ok (.areturn, 1) := by decide +kernel
theorem dX9_hasLog_0 : decode cX9_hasLog 0 = .ok (.aload_n 0, 1) := by decide +kernel
theorem dX9_hasLog_1 : decode cX9_hasLog 1 = .ok (.getfield 11, 3) := by decide +kernel
theorem dX9_hasLog_4 : decode cX9_hasLog 4 = .ok (.astore_n 1, 1) := by decide +kernel
theorem dX9_hasLog_5 : decode cX9_hasLog 5 = .ok (.aload_n 1, 1) := by decide +kernel
theorem dX9_hasLog_6 : decode cX9_hasLog 6 = .ok (.arraylength, 1) := by decide +kernel
theorem dX9_hasLog_7 : decode cX9_hasLog 7 = .ok (.istore_n 2, 1) := by decide +kernel
theorem dX9_hasLog_8 : decode cX9_hasLog 8 = .ok (.iconst 0, 1) := by decide +kernel
theorem dX9_hasLog_9 : decode cX9_hasLog 9 = .ok (.istore_n 3, 1) := by decide +kernel
theorem dX9_hasLog_10 : decode cX9_hasLog 10 = .ok (.iload_n 3, 1) := by decide +kernel
theorem dX9_hasLog_11 : decode cX9_hasLog 11 = .ok (.iload_n 2, 1) := by decide +kernel
theorem dX9_hasLog_12 : decode cX9_hasLog 12 = .ok (.if_icmp .ge 24, 3) := by decide +kernel
theorem dX9_hasLog_15 : decode cX9_hasLog 15 = .ok (.aload_n 1, 1) := by decide +kernel
theorem dX9_hasLog_16 : decode cX9_hasLog 16 = .ok (.iload_n 3, 1) := by decide +kernel
theorem dX9_hasLog_17 : decode cX9_hasLog 17 = .ok (.aaload, 1) := by decide +kernel
theorem dX9_hasLog_18 : decode cX9_hasLog 18 = .ok (.astore 4, 2) := by decide +kernel
theorem dX9_hasLog_20 : decode cX9_hasLog 20 = .ok (.aload 4, 2) := by decide +kernel
theorem dX9_hasLog_22 : decode cX9_hasLog 22 = .ok (.getfield 38, 3) := by decide +kernel
theorem dX9_hasLog_25 : decode cX9_hasLog 25 = .ok (.ifCond .ne 5, 3) := by decide +kernel
theorem dX9_hasLog_28 : decode cX9_hasLog 28 = .ok (.iconst 1, 1) := by decide +kernel
theorem dX9_hasLog_29 : decode cX9_hasLog 29 = .ok (.ireturn, 1) := by decide +kernel
theorem dX9_hasLog_30 : decode cX9_hasLog 30 = .ok (.iinc 3 1, 3) := by decide +kernel
theorem dX9_hasLog_33 : decode cX9_hasLog 33 = .ok (.goto (-23), 3) := by decide +kernel
theorem dX9_hasLog_36 : decode cX9_hasLog 36 = .ok (.iconst 0, 1) := by decide +kernel
theorem dX9_hasLog_37 : decode cX9_hasLog 37 = .ok (.ireturn, 1) := by decide +kernel
theorem dX9_isRanked_0 : decode cX9_isRanked 0 = .ok (.aload_n 0, 1) := by decide +kernel
theorem dX9_isRanked_1 : decode cX9_isRanked 1 = .ok (.getfield 21, 3) := by decide +kernel
theorem dX9_isRanked_4 : decode cX9_isRanked 4 = .ok (.iconst 4, 1) := by decide +kernel
theorem dX9_isRanked_5 : decode cX9_isRanked 5 = .ok (.if_icmp .eq 15, 3) := by decide +kernel
theorem dX9_isRanked_8 : decode cX9_isRanked 8 = .ok (.aload_n 0, 1) := by decide +kernel
theorem dX9_isRanked_9 : decode cX9_isRanked 9 = .ok (.getfield 21, 3) := by decide +kernel
theorem dX9_isRanked_12 : decode cX9_isRanked 12 = .ok (.iconst 3, 1) := by decide +kernel
theorem dX9_isRanked_13 : decode cX9_isRanked 13 = .ok (.if_icmp .eq 7, 3) := by decide +kernel
theorem dX9_isRanked_16 : decode cX9_isRanked 16 = .ok (.iconst 1, 1) := by decide +kernel
theorem dX9_isRanked_17 : decode cX9_isRanked 17 = .ok (.goto 4, 3) := by decide +kernel
theorem dX9_isRanked_20 : decode cX9_isRanked 20 = .ok (.iconst 0, 1) := by decide +kernel
theorem dX9_isRanked_21 : decode cX9_isRanked 21 = .ok (.ireturn, 1) := by decide +kernel
theorem dX9_putRight_0 : decode cX9_putRight 0 = .ok (.aload_n 1, 1) := by decide +kernel
theorem dX9_putRight_1 : decode cX9_putRight 1 = .ok (.getfield 42, 3) := by decide +kernel
theorem dX9_putRight_4 : decode cX9_putRight 4 = .ok (.aload_n 0, 1) := by decide +kernel
theorem dX9_putRight_5 : decode cX9_putRight 5 = .ok (.getfield 47, 3) := by decide +kernel
theorem dX9_putRight_8 : decode cX9_putRight 8 = .ok (.ladd, 1) := by decide +kernel
theorem dX9_putRight_9 : decode cX9_putRight 9 = .ok (.lreturn, 1) := by decide +kernel
theorem dX9_holdsCall_0 : decode cX9_holdsCall 0 = .ok (.aload_n 0, 1) := by decide +kernel
theorem dX9_holdsCall_1 : decode cX9_holdsCall 1 = .ok (.getfield 11, 3) := by decide +kernel
theorem dX9_holdsCall_4 : decode cX9_holdsCall 4 = .ok (.astore_n 3, 1) := by decide +kernel
theorem dX9_holdsCall_5 : decode cX9_holdsCall 5 = .ok (.aload_n 3, 1) := by decide +kernel
theorem dX9_holdsCall_6 : decode cX9_holdsCall 6 = .ok (.arraylength, 1) := by decide +kernel
theorem dX9_holdsCall_7 : decode cX9_holdsCall 7 = .ok (.istore 4, 2) := by decide +kernel
theorem dX9_holdsCall_9 : decode cX9_holdsCall 9 = .ok (.iconst 0, 1) := by decide +kernel
theorem dX9_holdsCall_10 : decode cX9_holdsCall 10 = .ok (.istore 5, 2) := by decide +kernel
theorem dX9_holdsCall_12 : decode cX9_holdsCall 12 = .ok (.iload 5, 2) := by decide +kernel
theorem dX9_holdsCall_14 : decode cX9_holdsCall 14 = .ok (.iload 4, 2) := by decide +kernel
theorem dX9_holdsCall_16 : decode cX9_holdsCall 16 = .ok (.if_icmp .ge 26, 3) := by decide +kernel
theorem dX9_holdsCall_19 : decode cX9_holdsCall 19 = .ok (.aload_n 3, 1) := by decide +kernel
theorem dX9_holdsCall_20 : decode cX9_holdsCall 20 = .ok (.iload 5, 2) := by decide +kernel
theorem dX9_holdsCall_22 : decode cX9_holdsCall 22 = .ok (.aaload, 1) := by decide +kernel
theorem dX9_holdsCall_23 : decode cX9_holdsCall 23 = .ok (.astore 6, 2) := by decide +kernel
theorem dX9_holdsCall_25 : decode cX9_holdsCall 25 = .ok (.aload 6, 2) := by decide +kernel
theorem dX9_holdsCall_27 : decode cX9_holdsCall 27 = .ok (.lload_n 1, 1) := by decide +kernel
theorem dX9_holdsCall_28 : decode cX9_holdsCall 28 = .ok (.invokevirtual 50, 3) := by decide +kernel
theorem dX9_holdsCall_31 : decode cX9_holdsCall 31 = .ok (.ifCond .eq 5, 3) := by decide +kernel
theorem dX9_holdsCall_34 : decode cX9_holdsCall 34 = .ok (.iconst 1, 1) := by decide +kernel
theorem dX9_holdsCall_35 : decode cX9_holdsCall 35 = .ok (.ireturn, 1) := by decide +kernel
theorem dX9_holdsCall_36 : decode cX9_holdsCall 36 = .ok (.iinc 5 1, 3) := by decide +kernel
theorem dX9_holdsCall_39 : decode cX9_holdsCall 39 = .ok (.goto (-27), 3) := by decide +kernel
theorem dX9_holdsCall_42 : decode cX9_holdsCall 42 = .ok (.iconst 0, 1) := by decide +kernel
theorem dX9_holdsCall_43 : decode cX9_holdsCall 43 = .ok (.ireturn, 1) := by decide +kernel
theorem dX9_contactsWithWhy_0 : decode cX9_contactsWithWhy 0 = .ok (.iconst 0, 1) := by decide +kernel
theorem dX9_contactsWithWhy_1 : decode cX9_contactsWithWhy 1 = .ok (.istore_n 2, 1) := by decide +kernel
theorem dX9_contactsWithWhy_2 : decode cX9_contactsWithWhy 2 = .ok (.aload_n 0, 1) := by decide +kernel
theorem dX9_contactsWithWhy_3 : decode cX9_contactsWithWhy 3 = .ok (.getfield 11, 3) := by decide +kernel
theorem dX9_contactsWithWhy_6 : decode cX9_contactsWithWhy 6 = .ok (.astore_n 3, 1) := by decide +kernel
theorem dX9_contactsWithWhy_7 : decode cX9_contactsWithWhy 7 = .ok (.aload_n 3, 1) := by decide +kernel
theorem dX9_contactsWithWhy_8 : decode cX9_contactsWithWhy 8 = .ok (.arraylength, 1) := by decide +kernel
theorem dX9_contactsWithWhy_9 : decode cX9_contactsWithWhy 9 = .ok (.istore 4, 2) := by decide +kernel
theorem dX9_contactsWithWhy_11 : decode cX9_contactsWithWhy 11 = .ok (.iconst 0, 1) := by decide +kernel
theorem dX9_contactsWithWhy_12 : decode cX9_contactsWithWhy 12 = .ok (.istore 5, 2) := by decide +kernel
theorem dX9_contactsWithWhy_14 : decode cX9_contactsWithWhy 14 = .ok (.iload 5, 2) := by decide +kernel
theorem dX9_contactsWithWhy_16 : decode cX9_contactsWithWhy 16 = .ok (.iload 4, 2) := by decide +kernel
theorem dX9_contactsWithWhy_18 : decode cX9_contactsWithWhy 18 = .ok (.if_icmp .ge 60, 3) := by decide +kernel
theorem dX9_contactsWithWhy_21 : decode cX9_contactsWithWhy 21 = .ok (.aload_n 3, 1) := by decide +kernel
theorem dX9_contactsWithWhy_22 : decode cX9_contactsWithWhy 22 = .ok (.iload 5, 2) := by decide +kernel
theorem dX9_contactsWithWhy_24 : decode cX9_contactsWithWhy 24 = .ok (.aaload, 1) := by decide +kernel
theorem dX9_contactsWithWhy_25 : decode cX9_contactsWithWhy 25 = .ok (.astore 6, 2) := by decide +kernel
theorem dX9_contactsWithWhy_27 : decode cX9_contactsWithWhy 27 = .ok (.iconst 0, 1) := by decide +kernel
theorem dX9_contactsWithWhy_28 : decode cX9_contactsWithWhy 28 = .ok (.istore 7, 2) := by decide +kernel
theorem dX9_contactsWithWhy_30 : decode cX9_contactsWithWhy 30 = .ok (.iload 7, 2) := by decide +kernel
theorem dX9_contactsWithWhy_32 : decode cX9_contactsWithWhy 32 = .ok (.aload 6, 2) := by decide +kernel
theorem dX9_contactsWithWhy_34 : decode cX9_contactsWithWhy 34 = .ok (.getfield 54, 3) := by decide +kernel
theorem dX9_contactsWithWhy_37 : decode cX9_contactsWithWhy 37 = .ok (.if_icmp .ge 35, 3) := by decide +kernel
theorem dX9_contactsWithWhy_40 : decode cX9_contactsWithWhy 40 = .ok (.aload 6, 2) := by decide +kernel
theorem dX9_contactsWithWhy_42 : decode cX9_contactsWithWhy 42 = .ok (.iload 7, 2) := by decide +kernel
theorem dX9_contactsWithWhy_44 : decode cX9_contactsWithWhy 44 = .ok (.invokevirtual 57, 3) := by decide +kernel
theorem dX9_contactsWithWhy_47 : decode cX9_contactsWithWhy 47 = .ok (.astore 8, 2) := by decide +kernel
theorem dX9_contactsWithWhy_49 : decode cX9_contactsWithWhy 49 = .ok (.aload 8, 2) := by decide +kernel
theorem dX9_contactsWithWhy_51 : decode cX9_contactsWithWhy 51 = .ok (.ifnull 15, 3) := by decide +kernel
theorem dX9_contactsWithWhy_54 : decode cX9_contactsWithWhy 54 = .ok (.aload 8, 2) := by decide +kernel
theorem dX9_contactsWithWhy_56 : decode cX9_contactsWithWhy 56 = .ok (.getfield 61, 3) := by decide +kernel
theorem dX9_contactsWithWhy_59 : decode cX9_contactsWithWhy 59 = .ok (.iload_n 1, 1) := by decide +kernel
theorem dX9_contactsWithWhy_60 : decode cX9_contactsWithWhy 60 = .ok (.if_icmp .ne 6, 3) := by decide +kernel
theorem dX9_contactsWithWhy_63 : decode cX9_contactsWithWhy 63 = .ok (.iinc 2 1, 3) := by decide +kernel
theorem dX9_contactsWithWhy_66 : decode cX9_contactsWithWhy 66 = .ok (.iinc 7 1, 3) := by decide +kernel
theorem dX9_contactsWithWhy_69 : decode cX9_contactsWithWhy 69 = .ok (.goto (-39), 3) := by decide +kernel
theorem dX9_contactsWithWhy_72 : decode cX9_contactsWithWhy 72 = .ok (.iinc 5 1, 3) := by decide +kernel
theorem dX9_contactsWithWhy_75 : decode cX9_contactsWithWhy 75 = .ok (.goto (-61), 3) := by decide +kernel
theorem dX9_contactsWithWhy_78 : decode cX9_contactsWithWhy 78 = .ok (.iload_n 2, 1) := by decide +kernel
theorem dX9_contactsWithWhy_79 : decode cX9_contactsWithWhy 79 = .ok (.ireturn, 1) := by decide +kernel
theorem dX9_spanOfContacts_0 : decode cX9_spanOfContacts 0 = .ok (.ldc2_w 64, 3) := by decide +kernel
theorem dX9_spanOfContacts_3 : decode cX9_spanOfContacts 3 = .ok (.lstore_n 1, 1) := by decide +kernel
theorem dX9_spanOfContacts_4 : decode cX9_spanOfContacts 4 = .ok (.lconst 0, 1) := by decide +kernel
theorem dX9_spanOfContacts_5 : decode cX9_spanOfContacts 5 = .ok (.lstore_n 3, 1) := by decide +kernel
theorem dX9_spanOfContacts_6 : decode cX9_spanOfContacts 6 = .ok (.aload_n 0, 1) := by decide +kernel
theorem dX9_spanOfContacts_7 : decode cX9_spanOfContacts 7 = .ok (.getfield 11, 3) := by decide +kernel
theorem dX9_spanOfContacts_10 : decode cX9_spanOfContacts 10 = .ok (.astore 5, 2) := by decide +kernel
theorem dX9_spanOfContacts_12 : decode cX9_spanOfContacts 12 = .ok (.aload 5, 2) := by decide +kernel
theorem dX9_spanOfContacts_14 : decode cX9_spanOfContacts 14 = .ok (.arraylength, 1) := by decide +kernel
theorem dX9_spanOfContacts_15 : decode cX9_spanOfContacts 15 = .ok (.istore 6, 2) := by decide +kernel
theorem dX9_spanOfContacts_17 : decode cX9_spanOfContacts 17 = .ok (.iconst 0, 1) := by decide +kernel
theorem dX9_spanOfContacts_18 : decode cX9_spanOfContacts 18 = .ok (.istore 7, 2) := by decide +kernel
theorem dX9_spanOfContacts_20 : decode cX9_spanOfContacts 20 = .ok (.iload 7, 2) := by decide +kernel
theorem dX9_spanOfContacts_22 : decode cX9_spanOfContacts 22 = .ok (.iload 6, 2) := by decide +kernel
theorem dX9_spanOfContacts_24 : decode cX9_spanOfContacts 24 = .ok (.if_icmp .ge 69, 3) := by decide +kernel
theorem dX9_spanOfContacts_27 : decode cX9_spanOfContacts 27 = .ok (.aload 5, 2) := by decide +kernel
theorem dX9_spanOfContacts_29 : decode cX9_spanOfContacts 29 = .ok (.iload 7, 2) := by decide +kernel
theorem dX9_spanOfContacts_31 : decode cX9_spanOfContacts 31 = .ok (.aaload, 1) := by decide +kernel
theorem dX9_spanOfContacts_32 : decode cX9_spanOfContacts 32 = .ok (.astore 8, 2) := by decide +kernel
theorem dX9_spanOfContacts_34 : decode cX9_spanOfContacts 34 = .ok (.iconst 0, 1) := by decide +kernel
theorem dX9_spanOfContacts_35 : decode cX9_spanOfContacts 35 = .ok (.istore 9, 2) := by decide +kernel
theorem dX9_spanOfContacts_37 : decode cX9_spanOfContacts 37 = .ok (.iload 9, 2) := by decide +kernel
theorem dX9_spanOfContacts_39 : decode cX9_spanOfContacts 39 = .ok (.aload 8, 2) := by decide +kernel
theorem dX9_spanOfContacts_41 : decode cX9_spanOfContacts 41 = .ok (.getfield 54, 3) := by decide +kernel
theorem dX9_spanOfContacts_44 : decode cX9_spanOfContacts 44 = .ok (.if_icmp .ge 43, 3) := by decide +kernel
theorem dX9_spanOfContacts_47 : decode cX9_spanOfContacts 47 = .ok (.aload 8, 2) := by decide +kernel
theorem dX9_spanOfContacts_49 : decode cX9_spanOfContacts 49 = .ok (.iload 9, 2) := by decide +kernel
theorem dX9_spanOfContacts_51 : decode cX9_spanOfContacts 51 = .ok (.invokevirtual 57, 3) := by decide +kernel
theorem dX9_spanOfContacts_54 : decode cX9_spanOfContacts 54 = .ok (.astore 10, 2) := by decide +kernel
theorem dX9_spanOfContacts_56 : decode cX9_spanOfContacts 56 = .ok (.aload 10, 2) := by decide +kernel
theorem dX9_spanOfContacts_58 : decode cX9_spanOfContacts 58 = .ok (.ifnull 23, 3) := by decide +kernel
theorem dX9_spanOfContacts_61 : decode cX9_spanOfContacts 61 = .ok (.lload_n 1, 1) := by decide +kernel
theorem dX9_spanOfContacts_62 : decode cX9_spanOfContacts 62 = .ok (.aload 10, 2) := by decide +kernel
theorem dX9_spanOfContacts_64 : decode cX9_spanOfContacts 64 = .ok (.getfield 42, 3) := by decide +kernel
theorem dX9_spanOfContacts_67 : decode cX9_spanOfContacts 67 = .ok (.invokestatic 66, 3) := by decide +kernel
theorem dX9_spanOfContacts_70 : decode cX9_spanOfContacts 70 = .ok (.lstore_n 1, 1) := by decide +kernel
theorem dX9_spanOfContacts_71 : decode cX9_spanOfContacts 71 = .ok (.lload_n 3, 1) := by decide +kernel
theorem dX9_spanOfContacts_72 : decode cX9_spanOfContacts 72 = .ok (.aload 10, 2) := by decide +kernel
theorem dX9_spanOfContacts_74 : decode cX9_spanOfContacts 74 = .ok (.getfield 42, 3) := by decide +kernel
theorem dX9_spanOfContacts_77 : decode cX9_spanOfContacts 77 = .ok (.invokestatic 72, 3) := by decide +kernel
theorem dX9_spanOfContacts_80 : decode cX9_spanOfContacts 80 = .ok (.lstore_n 3, 1) := by decide +kernel
theorem dX9_spanOfContacts_81 : decode cX9_spanOfContacts 81 = .ok (.iinc 9 1, 3) := by decide +kernel
theorem dX9_spanOfContacts_84 : decode cX9_spanOfContacts 84 = .ok (.goto (-47), 3) := by decide +kernel
theorem dX9_spanOfContacts_87 : decode cX9_spanOfContacts 87 = .ok (.iinc 7 1, 3) := by decide +kernel
theorem dX9_spanOfContacts_90 : decode cX9_spanOfContacts 90 = .ok (.goto (-70), 3) := by decide +kernel
theorem dX9_spanOfContacts_93 : decode cX9_spanOfContacts 93 = .ok (.lload_n 1, 1) := by decide +kernel
theorem dX9_spanOfContacts_94 : decode cX9_spanOfContacts 94 = .ok (.ldc2_w 64, 3) := by decide +kernel
theorem dX9_spanOfContacts_97 : decode cX9_spanOfContacts 97 = .ok (.lcmp, 1) := by decide +kernel
theorem dX9_spanOfContacts_98 : decode cX9_spanOfContacts 98 = .ok (.ifCond .ne 7, 3) := by decide +kernel
theorem dX9_spanOfContacts_101 : decode cX9_spanOfContacts 101 = .ok (.lconst 0, 1) := by decide +kernel
theorem dX9_spanOfContacts_102 : decode cX9_spanOfContacts 102 = .ok (.goto 6, 3) := by decide +kernel
theorem dX9_spanOfContacts_105 : decode cX9_spanOfContacts 105 = .ok (.lload_n 3, 1) := by decide +kernel
theorem dX9_spanOfContacts_106 : decode cX9_spanOfContacts 106 = .ok (.lload_n 1, 1) := by decide +kernel
theorem dX9_spanOfContacts_107 : decode cX9_spanOfContacts 107 = .ok (.lsub, 1) := by decide +kernel
theorem dX9_spanOfContacts_108 : decode cX9_spanOfContacts 108 = .ok (.lreturn, 1) := by decide +kernel
theorem dX9_distanceTo_0 : decode cX9_distanceTo 0 = .ok (.aload_n 0, 1) := by decide +kernel
theorem dX9_distanceTo_1 : decode cX9_distanceTo 1 = .ok (.getfield 27, 3) := by decide +kernel
theorem dX9_distanceTo_4 : decode cX9_distanceTo 4 = .ok (.aload_n 1, 1) := by decide +kernel
theorem dX9_distanceTo_5 : decode cX9_distanceTo 5 = .ok (.getfield 27, 3) := by decide +kernel
theorem dX9_distanceTo_8 : decode cX9_distanceTo 8 = .ok (.isub, 1) := by decide +kernel
theorem dX9_distanceTo_9 : decode cX9_distanceTo 9 = .ok (.istore_n 2, 1) := by decide +kernel
theorem dX9_distanceTo_10 : decode cX9_distanceTo 10 = .ok (.aload_n 0, 1) := by decide +kernel
theorem dX9_distanceTo_11 : decode cX9_distanceTo 11 = .ok (.getfield 30, 3) := by decide +kernel
theorem dX9_distanceTo_14 : decode cX9_distanceTo 14 = .ok (.aload_n 1, 1) := by decide +kernel
theorem dX9_distanceTo_15 : decode cX9_distanceTo 15 = .ok (.getfield 30, 3) := by decide +kernel
theorem dX9_distanceTo_18 : decode cX9_distanceTo 18 = .ok (.isub, 1) := by decide +kernel
theorem dX9_distanceTo_19 : decode cX9_distanceTo 19 = .ok (.istore_n 3, 1) := by decide +kernel
theorem dX9_distanceTo_20 : decode cX9_distanceTo 20 = .ok (.iload_n 2, 1) := by decide +kernel
theorem dX9_distanceTo_21 : decode cX9_distanceTo 21 = .ok (.iload_n 2, 1) := by decide +kernel
theorem dX9_distanceTo_22 : decode cX9_distanceTo 22 = .ok (.imul, 1) := by decide +kernel
theorem dX9_distanceTo_23 : decode cX9_distanceTo 23 = .ok (.iload_n 3, 1) := by decide +kernel
theorem dX9_distanceTo_24 : decode cX9_distanceTo 24 = .ok (.iload_n 3, 1) := by decide +kernel
theorem dX9_distanceTo_25 : decode cX9_distanceTo 25 = .ok (.imul, 1) := by decide +kernel
theorem dX9_distanceTo_26 : decode cX9_distanceTo 26 = .ok (.iadd, 1) := by decide +kernel
theorem dX9_distanceTo_27 : decode cX9_distanceTo 27 = .ok (.istore 4, 2) := by decide +kernel
theorem dX9_distanceTo_29 : decode cX9_distanceTo 29 = .ok (.iconst 0, 1) := by decide +kernel
theorem dX9_distanceTo_30 : decode cX9_distanceTo 30 = .ok (.istore 5, 2) := by decide +kernel
theorem dX9_distanceTo_32 : decode cX9_distanceTo 32 = .ok (.sipush 128, 3) := by decide +kernel
theorem dX9_distanceTo_35 : decode cX9_distanceTo 35 = .ok (.istore 6, 2) := by decide +kernel
theorem dX9_distanceTo_37 : decode cX9_distanceTo 37 = .ok (.iload 6, 2) := by decide +kernel
theorem dX9_distanceTo_39 : decode cX9_distanceTo 39 = .ok (.ifCond .le 33, 3) := by decide +kernel
theorem dX9_distanceTo_42 : decode cX9_distanceTo 42 = .ok (.iload 5, 2) := by decide +kernel
theorem dX9_distanceTo_44 : decode cX9_distanceTo 44 = .ok (.iload 6, 2) := by decide +kernel
theorem dX9_distanceTo_46 : decode cX9_distanceTo 46 = .ok (.iadd, 1) := by decide +kernel
theorem dX9_distanceTo_47 : decode cX9_distanceTo 47 = .ok (.istore 7, 2) := by decide +kernel
theorem dX9_distanceTo_49 : decode cX9_distanceTo 49 = .ok (.iload 7, 2) := by decide +kernel
theorem dX9_distanceTo_51 : decode cX9_distanceTo 51 = .ok (.iload 7, 2) := by decide +kernel
theorem dX9_distanceTo_53 : decode cX9_distanceTo 53 = .ok (.imul, 1) := by decide +kernel
theorem dX9_distanceTo_54 : decode cX9_distanceTo 54 = .ok (.iload 4, 2) := by decide +kernel
theorem dX9_distanceTo_56 : decode cX9_distanceTo 56 = .ok (.if_icmp .gt 7, 3) := by decide +kernel
theorem dX9_distanceTo_59 : decode cX9_distanceTo 59 = .ok (.iload 7, 2) := by decide +kernel
theorem dX9_distanceTo_61 : decode cX9_distanceTo 61 = .ok (.istore 5, 2) := by decide +kernel
theorem dX9_distanceTo_63 : decode cX9_distanceTo 63 = .ok (.iload 6, 2) := by decide +kernel
theorem dX9_distanceTo_65 : decode cX9_distanceTo 65 = .ok (.iconst 1, 1) := by decide +kernel
theorem dX9_distanceTo_66 : decode cX9_distanceTo 66 = .ok (.ishr, 1) := by decide +kernel
theorem dX9_distanceTo_67 : decode cX9_distanceTo 67 = .ok (.istore 6, 2) := by decide +kernel
theorem dX9_distanceTo_69 : decode cX9_distanceTo 69 = .ok (.goto (-32), 3) := by decide +kernel
theorem dX9_distanceTo_72 : decode cX9_distanceTo 72 = .ok (.iload 5, 2) := by decide +kernel
theorem dX9_distanceTo_74 : decode cX9_distanceTo 74 = .ok (.ireturn, 1) := by decide +kernel
theorem dX10_init_0 : decode cX10_init 0 = .ok (.aload_n 0, 1) := by decide +kernel
theorem dX10_init_1 : decode cX10_init 1 = .ok (.invokespecial 3, 3) := by decide +kernel
theorem dX10_init_4 : decode cX10_init 4 = .ok (.aload_n 0, 1) := by decide +kernel
theorem dX10_init_5 : decode cX10_init 5 = .ok (.sipush 1000, 3) := by decide +kernel
theorem dX10_init_8 : decode cX10_init 8 = .ok (.newarray .int, 2) := by decide +kernel
theorem dX10_init_10 : decode cX10_init 10 = .ok (.putfield 11, 3) := by decide +kernel
theorem dX10_init_13 : decode cX10_init 13 = .ok (.return_, 1) := by decide +kernel
theorem dX10_hasRoomFor_0 : decode cX10_hasRoomFor 0 = .ok (.iload_n 1, 1) := by decide +kernel
theorem dX10_hasRoomFor_1 : decode cX10_hasRoomFor 1 = .ok (.sipush 1000, 3) := by decide +kernel
theorem dX10_hasRoomFor_4 : decode cX10_hasRoomFor 4 = .ok (.aload_n 0, 1) := by decide +kernel
theorem dX10_hasRoomFor_5 : decode cX10_hasRoomFor 5 = .ok (.getfield 15, 3) := by decide +kernel
theorem dX10_hasRoomFor_8 : decode cX10_hasRoomFor 8 = .ok (.isub, 1) := by decide +kernel
theorem dX10_hasRoomFor_9 : decode cX10_hasRoomFor 9 = .ok (.if_icmp .gt 7, 3) := by decide +kernel
theorem dX10_hasRoomFor_12 : decode cX10_hasRoomFor 12 = .ok (.iconst 1, 1) := by decide +kernel
theorem dX10_hasRoomFor_13 : decode cX10_hasRoomFor 13 = .ok (.goto 4, 3) := by decide +kernel
theorem dX10_hasRoomFor_16 : decode cX10_hasRoomFor 16 = .ok (.iconst 0, 1) := by decide +kernel
theorem dX10_hasRoomFor_17 : decode cX10_hasRoomFor 17 = .ok (.ireturn, 1) := by decide +kernel
theorem dX10_add_0 : decode cX10_add 0 = .ok (.bipush 24, 2) := by decide +kernel
theorem dX10_add_2 : decode cX10_add 2 = .ok (.istore_n 2, 1) := by decide +kernel
theorem dX10_add_3 : decode cX10_add 3 = .ok (.iload_n 2, 1) := by decide +kernel
theorem dX10_add_4 : decode cX10_add 4 = .ok (.ifCond .lt 45, 3) := by decide +kernel
theorem dX10_add_7 : decode cX10_add 7 = .ok (.aload_n 0, 1) := by decide +kernel
theorem dX10_add_8 : decode cX10_add 8 = .ok (.getfield 15, 3) := by decide +kernel
theorem dX10_add_11 : decode cX10_add 11 = .ok (.sipush 1000, 3) := by decide +kernel
theorem dX10_add_14 : decode cX10_add 14 = .ok (.if_icmp .ge 35, 3) := by decide +kernel
theorem dX10_add_17 : decode cX10_add 17 = .ok (.aload_n 0, 1) := by decide +kernel
theorem dX10_add_18 : decode cX10_add 18 = .ok (.getfield 11, 3) := by decide +kernel
theorem dX10_add_21 : decode cX10_add 21 = .ok (.aload_n 0, 1) := by decide +kernel
theorem dX10_add_22 : decode cX10_add 22 = .ok (.getfield 15, 3) := by decide +kernel
theorem dX10_add_25 : decode cX10_add 25 = .ok (.iload_n 1, 1) := by decide +kernel
theorem dX10_add_26 : decode cX10_add 26 = .ok (.iload_n 2, 1) := by decide +kernel
theorem dX10_add_27 : decode cX10_add 27 = .ok (.iushr, 1) := by decide +kernel
theorem dX10_add_28 : decode cX10_add 28 = .ok (.sipush 255, 3) := by decide +kernel
theorem dX10_add_31 : decode cX10_add 31 = .ok (.iand, 1) := by decide +kernel
theorem dX10_add_32 : decode cX10_add 32 = .ok (.iastore, 1) := by decide +kernel
theorem dX10_add_33 : decode cX10_add 33 = .ok (.aload_n 0, 1) := by decide +kernel
theorem dX10_add_34 : decode cX10_add 34 = .ok (.dup, 1) := by decide +kernel
theorem dX10_add_35 : decode cX10_add 35 = .ok (.getfield 15, 3) := by decide +kernel
theorem dX10_add_38 : decode cX10_add 38 = .ok (.iconst 1, 1) := by decide +kernel
theorem dX10_add_39 : decode cX10_add 39 = .ok (.iadd, 1) := by decide +kernel
theorem dX10_add_40 : decode cX10_add 40 = .ok (.putfield 15, 3) := by decide +kernel
theorem dX10_add_43 : decode cX10_add 43 = .ok (.iinc 2 (-8), 3) := by decide +kernel
theorem dX10_add_46 : decode cX10_add 46 = .ok (.goto (-43), 3) := by decide +kernel
theorem dX10_add_49 : decode cX10_add 49 = .ok (.return_, 1) := by decide +kernel
theorem dX10_byteAt_0 : decode cX10_byteAt 0 = .ok (.iload_n 1, 1) := by decide +kernel
theorem dX10_byteAt_1 : decode cX10_byteAt 1 = .ok (.ifCond .lt 20, 3) := by decide +kernel
theorem dX10_byteAt_4 : decode cX10_byteAt 4 = .ok (.iload_n 1, 1) := by decide +kernel
theorem dX10_byteAt_5 : decode cX10_byteAt 5 = .ok (.aload_n 0, 1) := by decide +kernel
theorem dX10_byteAt_6 : decode cX10_byteAt 6 = .ok (.getfield 15, 3) := by decide +kernel
theorem dX10_byteAt_9 : decode cX10_byteAt 9 = .ok (.if_icmp .ge 12, 3) := by decide +kernel
theorem dX10_byteAt_12 : decode cX10_byteAt 12 = .ok (.aload_n 0, 1) := by decide +kernel
theorem dX10_byteAt_13 : decode cX10_byteAt 13 = .ok (.getfield 11, 3) := by decide +kernel
theorem dX10_byteAt_16 : decode cX10_byteAt 16 = .ok (.iload_n 1, 1) := by decide +kernel
theorem dX10_byteAt_17 : decode cX10_byteAt 17 = .ok (.iaload, 1) := by decide +kernel
theorem dX10_byteAt_18 : decode cX10_byteAt 18 = .ok (.goto 4, 3) := by decide +kernel
theorem dX10_byteAt_21 : decode cX10_byteAt 21 = .ok (.iconst (-1), 1) := by decide +kernel
theorem dX10_byteAt_22 : decode cX10_byteAt 22 = .ok (.ireturn, 1) := by decide +kernel
theorem dX10_isDigit_0 : decode cX10_isDigit 0 = .ok (.iload_n 0, 1) := by decide +kernel
theorem dX10_isDigit_1 : decode cX10_isDigit 1 = .ok (.bipush 48, 2) := by decide +kernel
theorem dX10_isDigit_3 : decode cX10_isDigit 3 = .ok (.if_icmp .lt 13, 3) := by decide +kernel
theorem dX10_isDigit_6 : decode cX10_isDigit 6 = .ok (.iload_n 0, 1) := by decide +kernel
theorem dX10_isDigit_7 : decode cX10_isDigit 7 = .ok (.bipush 57, 2) := by decide +kernel
theorem dX10_isDigit_9 : decode cX10_isDigit 9 = .ok (.if_icmp .gt 7, 3) := by decide +kernel
theorem dX10_isDigit_12 : decode cX10_isDigit 12 = .ok (.iconst 1, 1) := by decide +kernel
theorem dX10_isDigit_13 : decode cX10_isDigit 13 = .ok (.goto 4, 3) := by decide +kernel
theorem dX10_isDigit_16 : decode cX10_isDigit 16 = .ok (.iconst 0, 1) := by decide +kernel
theorem dX10_isDigit_17 : decode cX10_isDigit 17 = .ok (.ireturn, 1) := by decide +kernel
theorem dX10_lineEnd_0 : decode cX10_lineEnd 0 = .ok (.iload_n 1, 1) := by decide +kernel
theorem dX10_lineEnd_1 : decode cX10_lineEnd 1 = .ok (.istore_n 2, 1) := by decide +kernel
theorem dX10_lineEnd_2 : decode cX10_lineEnd 2 = .ok (.iload_n 2, 1) := by decide +kernel
theorem dX10_lineEnd_3 : decode cX10_lineEnd 3 = .ok (.aload_n 0, 1) := by decide +kernel
theorem dX10_lineEnd_4 : decode cX10_lineEnd 4 = .ok (.getfield 15, 3) := by decide +kernel
theorem dX10_lineEnd_7 : decode cX10_lineEnd 7 = .ok (.if_icmp .ge 19, 3) := by decide +kernel
theorem dX10_lineEnd_10 : decode cX10_lineEnd 10 = .ok (.aload_n 0, 1) := by decide +kernel
theorem dX10_lineEnd_11 : decode cX10_lineEnd 11 = .ok (.iload_n 2, 1) := by decide +kernel
theorem dX10_lineEnd_12 : decode cX10_lineEnd 12 = .ok (.invokevirtual 19, 3) := by decide +kernel
theorem dX10_lineEnd_15 : decode cX10_lineEnd 15 = .ok (.bipush 10, 2) := by decide +kernel
theorem dX10_lineEnd_17 : decode cX10_lineEnd 17 = .ok (.if_icmp .eq 9, 3) := by decide +kernel
theorem dX10_lineEnd_20 : decode cX10_lineEnd 20 = .ok (.iinc 2 1, 3) := by decide +kernel
theorem dX10_lineEnd_23 : decode cX10_lineEnd 23 = .ok (.goto (-21), 3) := by decide +kernel
theorem dX10_lineEnd_26 : decode cX10_lineEnd 26 = .ok (.iload_n 2, 1) := by decide +kernel
theorem dX10_lineEnd_27 : decode cX10_lineEnd 27 = .ok (.ireturn, 1) := by decide +kernel
theorem dX10_startWords_0 : decode cX10_startWords 0 = .ok (.aload_n 0, 1) := by decide +kernel
theorem dX10_startWords_1 : decode cX10_startWords 1 = .ok (.iload_n 1, 1) := by decide +kernel
theorem dX10_startWords_2 : decode cX10_startWords 2 = .ok (.putfield 23, 3) := by decide +kernel
theorem dX10_startWords_5 : decode cX10_startWords 5 = .ok (.aload_n 0, 1) := by decide +kernel
theorem dX10_startWords_6 : decode cX10_startWords 6 = .ok (.iload_n 2, 1) := by decide +kernel
theorem dX10_startWords_7 : decode cX10_startWords 7 = .ok (.putfield 26, 3) := by decide +kernel
theorem dX10_startWords_10 : decode cX10_startWords 10 = .ok (.return_, 1) := by decide +kernel
theorem dX10_nextWord_0 : decode cX10_nextWord 0 = .ok (.aload_n 0, 1) := by decide +kernel
theorem dX10_nextWord_1 : decode cX10_nextWord 1 = .ok (.getfield 23, 3) := by decide +kernel
theorem dX10_nextWord_4 : decode cX10_nextWord 4 = .ok (.istore_n 1, 1) := by decide +kernel
theorem dX10_nextWord_5 : decode cX10_nextWord 5 = .ok (.iload_n 1, 1) := by decide +kernel
theorem dX10_nextWord_6 : decode cX10_nextWord 6 = .ok (.aload_n 0, 1) := by decide +kernel
theorem dX10_nextWord_7 : decode cX10_nextWord 7 = .ok (.getfield 26, 3) := by decide +kernel
theorem dX10_nextWord_10 : decode cX10_nextWord 10 = .ok (.if_icmp .ge 19, 3) := by decide +kernel
theorem dX10_nextWord_13 : decode cX10_nextWord 13 = .ok (.aload_n 0, 1) := by decide +kernel
theorem dX10_nextWord_14 : decode cX10_nextWord 14 = .ok (.iload_n 1, 1) := by decide +kernel
theorem dX10_nextWord_15 : decode cX10_nextWord 15 = .ok (.invokevirtual 19, 3) := by decide +kernel
theorem dX10_nextWord_18 : decode cX10_nextWord 18 = .ok (.bipush 32, 2) := by decide +kernel
theorem dX10_nextWord_20 : decode cX10_nextWord 20 = .ok (.if_icmp .ne 9, 3) := by decide +kernel
theorem dX10_nextWord_23 : decode cX10_nextWord 23 = .ok (.iinc 1 1, 3) := by decide +kernel
theorem dX10_nextWord_26 : decode cX10_nextWord 26 = .ok (.goto (-21), 3) := by decide +kernel
theorem dX10_nextWord_29 : decode cX10_nextWord 29 = .ok (.aload_n 0, 1) := by decide +kernel
theorem dX10_nextWord_30 : decode cX10_nextWord 30 = .ok (.iload_n 1, 1) := by decide +kernel
theorem dX10_nextWord_31 : decode cX10_nextWord 31 = .ok (.putfield 29, 3) := by decide +kernel
theorem dX10_nextWord_34 : decode cX10_nextWord 34 = .ok (.iload_n 1, 1) := by decide +kernel
theorem dX10_nextWord_35 : decode cX10_nextWord 35 = .ok (.aload_n 0, 1) := by decide +kernel
theorem dX10_nextWord_36 : decode cX10_nextWord 36 = .ok (.getfield 26, 3) := by decide +kernel
theorem dX10_nextWord_39 : decode cX10_nextWord 39 = .ok (.if_icmp .ge 19, 3) := by decide +kernel
theorem dX10_nextWord_42 : decode cX10_nextWord 42 = .ok (.aload_n 0, 1) := by decide +kernel
theorem dX10_nextWord_43 : decode cX10_nextWord 43 = .ok (.iload_n 1, 1) := by decide +kernel
theorem dX10_nextWord_44 : decode cX10_nextWord 44 = .ok (.invokevirtual 19, 3) := by decide +kernel
theorem dX10_nextWord_47 : decode cX10_nextWord 47 = .ok (.bipush 32, 2) := by decide +kernel
theorem dX10_nextWord_49 : decode cX10_nextWord 49 = .ok (.if_icmp .eq 9, 3) := by decide +kernel
theorem dX10_nextWord_52 : decode cX10_nextWord 52 = .ok (.iinc 1 1, 3) := by decide +kernel
theorem dX10_nextWord_55 : decode cX10_nextWord 55 = .ok (.goto (-21), 3) := by decide +kernel
theorem dX10_nextWord_58 : decode cX10_nextWord 58 = .ok (.aload_n 0, 1) := by decide +kernel
theorem dX10_nextWord_59 : decode cX10_nextWord 59 = .ok (.iload_n 1, 1) := by decide +kernel
theorem dX10_nextWord_60 : decode cX10_nextWord 60 = .ok (.aload_n 0, 1) := by decide +kernel
theorem dX10_nextWord_61 : decode cX10_nextWord 61 = .ok (.getfield 29, 3) := by decide +kernel
theorem dX10_nextWord_64 : decode cX10_nextWord 64 = .ok (.isub, 1) := by decide +kernel
theorem dX10_nextWord_65 : decode cX10_nextWord 65 = .ok (.putfield 32, 3) := by decide +kernel
theorem dX10_nextWord_68 : decode cX10_nextWord 68 = .ok (.aload_n 0, 1) := by decide +kernel
theorem dX10_nextWord_69 : decode cX10_nextWord 69 = .ok (.iload_n 1, 1) := by decide +kernel
theorem dX10_nextWord_70 : decode cX10_nextWord 70 = .ok (.putfield 23, 3) := by decide +kernel
theorem dX10_nextWord_73 : decode cX10_nextWord 73 = .ok (.aload_n 0, 1) := by decide +kernel
theorem dX10_nextWord_74 : decode cX10_nextWord 74 = .ok (.getfield 32, 3) := by decide +kernel
theorem dX10_nextWord_77 : decode cX10_nextWord 77 = .ok (.ifCond .le 7, 3) := by decide +kernel
theorem dX10_nextWord_80 : decode cX10_nextWord 80 = .ok (.iconst 1, 1) := by decide +kernel
theorem dX10_nextWord_81 : decode cX10_nextWord 81 = .ok (.goto 4, 3) := by decide +kernel
theorem dX10_nextWord_84 : decode cX10_nextWord 84 = .ok (.iconst 0, 1) := by decide +kernel
theorem dX10_nextWord_85 : decode cX10_nextWord 85 = .ok (.ireturn, 1) := by decide +kernel
theorem dX10_wordIs_0 : decode cX10_wordIs 0 = .ok (.aload_n 0, 1) := by decide +kernel
theorem dX10_wordIs_1 : decode cX10_wordIs 1 = .ok (.getfield 32, 3) := by decide +kernel
theorem dX10_wordIs_4 : decode cX10_wordIs 4 = .ok (.aload_n 1, 1) := by decide +kernel
theorem dX10_wordIs_5 : decode cX10_wordIs 5 = .ok (.invokevirtual 35, 3) := by decide +kernel
theorem dX10_wordIs_8 : decode cX10_wordIs 8 = .ok (.if_icmp .eq 5, 3) := by decide +kernel
theorem dX10_wordIs_11 : decode cX10_wordIs 11 = .ok (.iconst 0, 1) := by decide +kernel
theorem dX10_wordIs_12 : decode cX10_wordIs 12 = .ok (.ireturn, 1) := by decide +kernel
theorem dX10_wordIs_13 : decode cX10_wordIs 13 = .ok (.iconst 0, 1) := by decide +kernel
theorem dX10_wordIs_14 : decode cX10_wordIs 14 = .ok (.istore_n 2, 1) := by decide +kernel
theorem dX10_wordIs_15 : decode cX10_wordIs 15 = .ok (.iload_n 2, 1) := by decide +kernel
theorem dX10_wordIs_16 : decode cX10_wordIs 16 = .ok (.aload_n 1, 1) := by decide +kernel
theorem dX10_wordIs_17 : decode cX10_wordIs 17 = .ok (.invokevirtual 35, 3) := by decide +kernel
theorem dX10_wordIs_20 : decode cX10_wordIs 20 = .ok (.if_icmp .ge 29, 3) := by decide +kernel
theorem dX10_wordIs_23 : decode cX10_wordIs 23 = .ok (.aload_n 0, 1) := by decide +kernel
theorem dX10_wordIs_24 : decode cX10_wordIs 24 = .ok (.aload_n 0, 1) := by decide +kernel
theorem dX10_wordIs_25 : decode cX10_wordIs 25 = .ok (.getfield 29, 3) := by decide +kernel
theorem dX10_wordIs_28 : decode cX10_wordIs 28 = .ok (.iload_n 2, 1) := by decide +kernel
theorem dX10_wordIs_29 : decode cX10_wordIs 29 = .ok (.iadd, 1) := by decide +kernel
theorem dX10_wordIs_30 : decode cX10_wordIs 30 = .ok (.invokevirtual 19, 3) := by decide +kernel
theorem dX10_wordIs_33 : decode cX10_wordIs 33 = .ok (.aload_n 1, 1) := by decide +kernel
theorem dX10_wordIs_34 : decode cX10_wordIs 34 = .ok (.iload_n 2, 1) := by decide +kernel
theorem dX10_wordIs_35 : decode cX10_wordIs 35 = .ok (.invokevirtual 41, 3) := by decide +kernel
theorem dX10_wordIs_38 : decode cX10_wordIs 38 = .ok (.if_icmp .eq 5, 3) := by decide +kernel
theorem dX10_wordIs_41 : decode cX10_wordIs 41 = .ok (.iconst 0, 1) := by decide +kernel
theorem dX10_wordIs_42 : decode cX10_wordIs 42 = .ok (.ireturn, 1) := by decide +kernel
theorem dX10_wordIs_43 : decode cX10_wordIs 43 = .ok (.iinc 2 1, 3) := by decide +kernel
theorem dX10_wordIs_46 : decode cX10_wordIs 46 = .ok (.goto (-31), 3) := by decide +kernel
theorem dX10_wordIs_49 : decode cX10_wordIs 49 = .ok (.iconst 1, 1) := by decide +kernel
theorem dX10_wordIs_50 : decode cX10_wordIs 50 = .ok (.ireturn, 1) := by decide +kernel
theorem dX10_wordAsNumber_0 : decode cX10_wordAsNumber 0 = .ok (.aload_n 0, 1) := by decide +kernel
theorem dX10_wordAsNumber_1 : decode cX10_wordAsNumber 1 = .ok (.getfield 32, 3) := by decide +kernel
theorem dX10_wordAsNumber_4 : decode cX10_wordAsNumber 4 = .ok (.iconst 1, 1) := by decide +kernel
theorem dX10_wordAsNumber_5 : decode cX10_wordAsNumber 5 = .ok (.if_icmp .lt 11, 3) := by decide +kernel
theorem dX10_wordAsNumber_8 : decode cX10_wordAsNumber 8 = .ok (.aload_n 0, 1) := by decide +kernel
theorem dX10_wordAsNumber_9 : decode cX10_wordAsNumber 9 = .ok (.getfield 32, 3) := by decide +kernel
theorem dX10_wordAsNumber_12 : decode cX10_wordAsNumber 12 = .ok (.iload_n 1, 1) := by decide +kernel
theorem dX10_wordAsNumber_13 : decode cX10_wordAsNumber 13 = .ok (.if_icmp .le 7, 3) := by decide +kernel
theorem dX10_wordAsNumber_16 : decode cX10_wordAsNumber 16 = .ok (.ldc2_w 45, 3) := by decide +kernel
theorem dX10_wordAsNumber_19 : decode cX10_wordAsNumber 19 = .ok (.lreturn, 1) := by decide +kernel
theorem dX10_wordAsNumber_20 : decode cX10_wordAsNumber 20 = .ok (.lconst 0, 1) := by decide +kernel
theorem dX10_wordAsNumber_21 : decode cX10_wordAsNumber 21 = .ok (.lstore_n 2, 1) := by decide +kernel
theorem dX10_wordAsNumber_22 : decode cX10_wordAsNumber 22 = .ok (.iconst 0, 1) := by decide +kernel
theorem dX10_wordAsNumber_23 : decode cX10_wordAsNumber 23 = .ok (.istore 4, 2) := by decide +kernel
theorem dX10_wordAsNumber_25 : decode cX10_wordAsNumber 25 = .ok (.iload 4, 2) := by decide +kernel
theorem dX10_wordAsNumber_27 : decode cX10_wordAsNumber 27 = .ok (.aload_n 0, 1) := by decide +kernel
theorem dX10_wordAsNumber_28 : decode cX10_wordAsNumber 28 = .ok (.getfield 32, 3) := by decide +kernel
theorem dX10_wordAsNumber_31 : decode cX10_wordAsNumber 31 = .ok (.if_icmp .ge 47, 3) := by decide +kernel
theorem dX10_wordAsNumber_34 : decode cX10_wordAsNumber 34 = .ok (.aload_n 0, 1) := by decide +kernel
theorem dX10_wordAsNumber_35 : decode cX10_wordAsNumber 35 = .ok (.aload_n 0, 1) := by decide +kernel
theorem dX10_wordAsNumber_36 : decode cX10_wordAsNumber 36 = .ok (.getfield 29, 3) := by decide +kernel
theorem dX10_wordAsNumber_39 : decode cX10_wordAsNumber 39 = .ok (.iload 4, 2) := by decide +kernel
theorem dX10_wordAsNumber_41 : decode cX10_wordAsNumber 41 = .ok (.iadd, 1) := by decide +kernel
theorem dX10_wordAsNumber_42 : decode cX10_wordAsNumber 42 = .ok (.invokevirtual 19, 3) := by decide +kernel
theorem dX10_wordAsNumber_45 : decode cX10_wordAsNumber 45 = .ok (.istore 5, 2) := by decide +kernel
theorem dX10_wordAsNumber_47 : decode cX10_wordAsNumber 47 = .ok (.iload 5, 2) := by decide +kernel
theorem dX10_wordAsNumber_49 : decode cX10_wordAsNumber 49 = .ok (.invokestatic 47, 3) := by decide +kernel
theorem dX10_wordAsNumber_52 : decode cX10_wordAsNumber 52 = .ok (.ifCond .ne 7, 3) := by decide +kernel
theorem dX10_wordAsNumber_55 : decode cX10_wordAsNumber 55 = .ok (.ldc2_w 45, 3) := by decide +kernel
theorem dX10_wordAsNumber_58 : decode cX10_wordAsNumber 58 = .ok (.lreturn, 1) := by decide +kernel
theorem dX10_wordAsNumber_59 : decode cX10_wordAsNumber 59 = .ok (.ldc2_w 51, 3) := by decide +kernel
theorem dX10_wordAsNumber_62 : decode cX10_wordAsNumber 62 = .ok (.lload_n 2, 1) := by decide +kernel
theorem dX10_wordAsNumber_63 : decode cX10_wordAsNumber 63 = .ok (.lmul, 1) := by decide +kernel
theorem dX10_wordAsNumber_64 : decode cX10_wordAsNumber 64 = .ok (.iload 5, 2) := by decide +kernel
theorem dX10_wordAsNumber_66 : decode cX10_wordAsNumber 66 = .ok (.bipush 48, 2) := by decide +kernel
theorem dX10_wordAsNumber_68 : decode cX10_wordAsNumber 68 = .ok (.isub, 1) := by decide +kernel
theorem dX10_wordAsNumber_69 : decode cX10_wordAsNumber 69 = .ok (.i2l, 1) := by decide +kernel
theorem dX10_wordAsNumber_70 : decode cX10_wordAsNumber 70 = .ok (.ladd, 1) := by decide +kernel
theorem dX10_wordAsNumber_71 : decode cX10_wordAsNumber 71 = .ok (.lstore_n 2, 1) := by decide +kernel
theorem dX10_wordAsNumber_72 : decode cX10_wordAsNumber 72 = .ok (.iinc 4 1, 3) := by decide +kernel
theorem dX10_wordAsNumber_75 : decode cX10_wordAsNumber 75 = .ok (.goto (-50), 3) := by decide +kernel
theorem dX10_wordAsNumber_78 : decode cX10_wordAsNumber 78 = .ok (.lload_n 2, 1) := by decide +kernel
theorem dX10_wordAsNumber_79 : decode cX10_wordAsNumber 79 = .ok (.lreturn, 1) := by decide +kernel
theorem dX10_wordAsCall_0 : decode cX10_wordAsCall 0 = .ok (.aload_n 0, 1) := by decide +kernel
theorem dX10_wordAsCall_1 : decode cX10_wordAsCall 1 = .ok (.aload_n 0, 1) := by decide +kernel
theorem dX10_wordAsCall_2 : decode cX10_wordAsCall 2 = .ok (.getfield 29, 3) := by decide +kernel
theorem dX10_wordAsCall_5 : decode cX10_wordAsCall 5 = .ok (.aload_n 0, 1) := by decide +kernel
theorem dX10_wordAsCall_6 : decode cX10_wordAsCall 6 = .ok (.getfield 29, 3) := by decide +kernel
theorem dX10_wordAsCall_9 : decode cX10_wordAsCall 9 = .ok (.aload_n 0, 1) := by decide +kernel
theorem dX10_wordAsCall_10 : decode cX10_wordAsCall 10 = .ok (.getfield 32, 3) := by decide +kernel
theorem dX10_wordAsCall_13 : decode cX10_wordAsCall 13 = .ok (.iadd, 1) := by decide +kernel
theorem dX10_wordAsCall_14 : decode cX10_wordAsCall 14 = .ok (.invokevirtual 53, 3) := by decide +kernel
theorem dX10_wordAsCall_17 : decode cX10_wordAsCall 17 = .ok (.lreturn, 1) := by decide +kernel
theorem dX10_callBetween_0 : decode cX10_callBetween 0 = .ok (.iload_n 2, 1) := by decide +kernel
theorem dX10_callBetween_1 : decode cX10_callBetween 1 = .ok (.iload_n 1, 1) := by decide +kernel
theorem dX10_callBetween_2 : decode cX10_callBetween 2 = .ok (.if_icmp .le 11, 3) := by decide +kernel
theorem dX10_callBetween_5 : decode cX10_callBetween 5 = .ok (.iload_n 2, 1) := by decide +kernel
theorem dX10_callBetween_6 : decode cX10_callBetween 6 = .ok (.iload_n 1, 1) := by decide +kernel
theorem dX10_callBetween_7 : decode cX10_callBetween 7 = .ok (.isub, 1) := by decide +kernel
theorem dX10_callBetween_8 : decode cX10_callBetween 8 = .ok (.bipush 6, 2) := by decide +kernel
theorem dX10_callBetween_10 : decode cX10_callBetween 10 = .ok (.if_icmp .le 5, 3) := by decide +kernel
theorem dX10_callBetween_13 : decode cX10_callBetween 13 = .ok (.lconst 0, 1) := by decide +kernel
theorem dX10_callBetween_14 : decode cX10_callBetween 14 = .ok (.lreturn, 1) := by decide +kernel
theorem dX10_callBetween_15 : decode cX10_callBetween 15 = .ok (.lconst 0, 1) := by decide +kernel
theorem dX10_callBetween_16 : decode cX10_callBetween 16 = .ok (.lstore_n 3, 1) := by decide +kernel
theorem dX10_callBetween_17 : decode cX10_callBetween 17 = .ok (.iload_n 1, 1) := by decide +kernel
theorem dX10_callBetween_18 : decode cX10_callBetween 18 = .ok (.istore 5, 2) := by decide +kernel
theorem dX10_callBetween_20 : decode cX10_callBetween 20 = .ok (.iload 5, 2) := by decide +kernel
theorem dX10_callBetween_22 : decode cX10_callBetween 22 = .ok (.iload_n 2, 1) := by decide +kernel
theorem dX10_callBetween_23 : decode cX10_callBetween 23 = .ok (.if_icmp .ge 50, 3) := by decide +kernel
theorem dX10_callBetween_26 : decode cX10_callBetween 26 = .ok (.aload_n 0, 1) := by decide +kernel
theorem dX10_callBetween_27 : decode cX10_callBetween 27 = .ok (.iload 5, 2) := by decide +kernel
theorem dX10_callBetween_29 : decode cX10_callBetween 29 = .ok (.invokevirtual 19, 3) := by decide +kernel
theorem dX10_callBetween_32 : decode cX10_callBetween 32 = .ok (.istore 6, 2) := by decide +kernel
theorem dX10_callBetween_34 : decode cX10_callBetween 34 = .ok (.iload 6, 2) := by decide +kernel
theorem dX10_callBetween_36 : decode cX10_callBetween 36 = .ok (.invokestatic 47, 3) := by decide +kernel
theorem dX10_callBetween_39 : decode cX10_callBetween 39 = .ok (.ifCond .ne 19, 3) := by decide +kernel
theorem dX10_callBetween_42 : decode cX10_callBetween 42 = .ok (.iload 6, 2) := by decide +kernel
theorem dX10_callBetween_44 : decode cX10_callBetween 44 = .ok (.bipush 65, 2) := by decide +kernel
theorem dX10_callBetween_46 : decode cX10_callBetween 46 = .ok (.if_icmp .lt 10, 3) := by decide +kernel
theorem dX10_callBetween_49 : decode cX10_callBetween 49 = .ok (.iload 6, 2) := by decide +kernel
theorem dX10_callBetween_51 : decode cX10_callBetween 51 = .ok (.bipush 90, 2) := by decide +kernel
theorem dX10_callBetween_53 : decode cX10_callBetween 53 = .ok (.if_icmp .le 5, 3) := by decide +kernel
theorem dX10_callBetween_56 : decode cX10_callBetween 56 = .ok (.lconst 0, 1) := by decide +kernel
theorem dX10_callBetween_57 : decode cX10_callBetween 57 = .ok (.lreturn, 1) := by decide +kernel
theorem dX10_callBetween_58 : decode cX10_callBetween 58 = .ok (.lload_n 3, 1) := by decide +kernel
theorem dX10_callBetween_59 : decode cX10_callBetween 59 = .ok (.bipush 8, 2) := by decide +kernel
theorem dX10_callBetween_61 : decode cX10_callBetween 61 = .ok (.lshl, 1) := by decide +kernel
theorem dX10_callBetween_62 : decode cX10_callBetween 62 = .ok (.iload 6, 2) := by decide +kernel
theorem dX10_callBetween_64 : decode cX10_callBetween 64 = .ok (.i2l, 1) := by decide +kernel
theorem dX10_callBetween_65 : decode cX10_callBetween 65 = .ok (.lor, 1) := by decide +kernel
theorem dX10_callBetween_66 : decode cX10_callBetween 66 = .ok (.lstore_n 3, 1) := by decide +kernel
theorem dX10_callBetween_67 : decode cX10_callBetween 67 = .ok (.iinc 5 1, 3) := by decide +kernel
theorem dX10_callBetween_70 : decode cX10_callBetween 70 = .ok (.goto (-50), 3) := by decide +kernel
theorem dX10_callBetween_73 : decode cX10_callBetween 73 = .ok (.lload_n 3, 1) := by decide +kernel
theorem dX10_callBetween_74 : decode cX10_callBetween 74 = .ok (.lreturn, 1) := by decide +kernel
theorem dX11_init_0 : decode cX11_init 0 = .ok (.aload_n 0, 1) := by decide +kernel
theorem dX11_init_1 : decode cX11_init 1 = .ok (.invokespecial 1, 3) := by decide +kernel
theorem dX11_init_4 : decode cX11_init 4 = .ok (.aload_n 0, 1) := by decide +kernel
theorem dX11_init_5 : decode cX11_init 5 = .ok (.new 7, 3) := by decide +kernel
theorem dX11_init_8 : decode cX11_init 8 = .ok (.dup, 1) := by decide +kernel
theorem dX11_init_9 : decode cX11_init 9 = .ok (.invokespecial 9, 3) := by decide +kernel
theorem dX11_init_12 : decode cX11_init 12 = .ok (.putfield 10, 3) := by decide +kernel
theorem dX11_init_15 : decode cX11_init 15 = .ok (.aload_n 0, 1) := by decide +kernel
theorem dX11_init_16 : decode cX11_init 16 = .ok (.new 16, 3) := by decide +kernel
theorem dX11_init_19 : decode cX11_init 19 = .ok (.dup, 1) := by decide +kernel
theorem dX11_init_20 : decode cX11_init 20 = .ok (.invokespecial 18, 3) := by decide +kernel
theorem dX11_init_23 : decode cX11_init 23 = .ok (.putfield 19, 3) := by decide +kernel
theorem dX11_init_26 : decode cX11_init 26 = .ok (.aload_n 0, 1) := by decide +kernel
theorem dX11_init_27 : decode cX11_init 27 = .ok (.new 23, 3) := by decide +kernel
theorem dX11_init_30 : decode cX11_init 30 = .ok (.dup, 1) := by decide +kernel
theorem dX11_init_31 : decode cX11_init 31 = .ok (.aload_n 0, 1) := by decide +kernel
theorem dX11_init_32 : decode cX11_init 32 = .ok (.getfield 10, 3) := by decide +kernel
theorem dX11_init_35 : decode cX11_init 35 = .ok (.invokespecial 25, 3) := by decide +kernel
theorem dX11_init_38 : decode cX11_init 38 = .ok (.putfield 28, 3) := by decide +kernel
theorem dX11_init_41 : decode cX11_init 41 = .ok (.aload_n 0, 1) := by decide +kernel
theorem dX11_init_42 : decode cX11_init 42 = .ok (.new 32, 3) := by decide +kernel
theorem dX11_init_45 : decode cX11_init 45 = .ok (.dup, 1) := by decide +kernel
theorem dX11_init_46 : decode cX11_init 46 = .ok (.invokespecial 34, 3) := by decide +kernel
theorem dX11_init_49 : decode cX11_init 49 = .ok (.putfield 35, 3) := by decide +kernel
theorem dX11_init_52 : decode cX11_init 52 = .ok (.aload_n 0, 1) := by decide +kernel
theorem dX11_init_53 : decode cX11_init 53 = .ok (.new 39, 3) := by decide +kernel
theorem dX11_init_56 : decode cX11_init 56 = .ok (.dup, 1) := by decide +kernel
theorem dX11_init_57 : decode cX11_init 57 = .ok (.aload_n 0, 1) := by decide +kernel
theorem dX11_init_58 : decode cX11_init 58 = .ok (.getfield 19, 3) := by decide +kernel
theorem dX11_init_61 : decode cX11_init 61 = .ok (.invokespecial 41, 3) := by decide +kernel
theorem dX11_init_64 : decode cX11_init 64 = .ok (.putfield 44, 3) := by decide +kernel
theorem dX11_init_67 : decode cX11_init 67 = .ok (.aload_n 0, 1) := by decide +kernel
theorem dX11_init_68 : decode cX11_init 68 = .ok (.new 48, 3) := by decide +kernel
theorem dX11_init_71 : decode cX11_init 71 = .ok (.dup, 1) := by decide +kernel
theorem dX11_init_72 : decode cX11_init 72 = .ok (.aload_n 0, 1) := by decide +kernel
theorem dX11_init_73 : decode cX11_init 73 = .ok (.getfield 19, 3) := by decide +kernel
theorem dX11_init_76 : decode cX11_init 76 = .ok (.aload_n 0, 1) := by decide +kernel
theorem dX11_init_77 : decode cX11_init 77 = .ok (.getfield 35, 3) := by decide +kernel
theorem dX11_init_80 : decode cX11_init 80 = .ok (.invokespecial 50, 3) := by decide +kernel
theorem dX11_init_83 : decode cX11_init 83 = .ok (.putfield 53, 3) := by decide +kernel
theorem dX11_init_86 : decode cX11_init 86 = .ok (.aload_n 0, 1) := by decide +kernel
theorem dX11_init_87 : decode cX11_init 87 = .ok (.bipush 20, 2) := by decide +kernel
theorem dX11_init_89 : decode cX11_init 89 = .ok (.bipush 12, 2) := by decide +kernel
theorem dX11_init_91 : decode cX11_init 91 = .ok (.multianewarray 57 2, 4) := by decide +kernel
theorem dX11_init_95 : decode cX11_init 95 = .ok (.putfield 59, 3) := by decide +kernel
theorem dX11_init_98 : decode cX11_init 98 = .ok (.aload_n 0, 1) := by decide +kernel
theorem dX11_init_99 : decode cX11_init 99 = .ok (.bipush 20, 2) := by decide +kernel
theorem dX11_init_101 : decode cX11_init 101 = .ok (.newarray .int, 2) := by decide +kernel
theorem dX11_init_103 : decode cX11_init 103 = .ok (.putfield 62, 3) := by decide +kernel
theorem dX11_init_106 : decode cX11_init 106 = .ok (.return_, 1) := by decide +kernel
theorem dX11_feed_0 : decode cX11_feed 0 = .ok (.aload_n 0, 1) := by decide +kernel
theorem dX11_feed_1 : decode cX11_feed 1 = .ok (.getfield 10, 3) := by decide +kernel
theorem dX11_feed_4 : decode cX11_feed 4 = .ok (.bipush 20, 2) := by decide +kernel
theorem dX11_feed_6 : decode cX11_feed 6 = .ok (.invokevirtual 66, 3) := by decide +kernel
theorem dX11_feed_9 : decode cX11_feed 9 = .ok (.ifCond .ne 5, 3) := by decide +kernel
theorem dX11_feed_12 : decode cX11_feed 12 = .ok (.iconst (-1), 1) := by decide +kernel
theorem dX11_feed_13 : decode cX11_feed 13 = .ok (.ireturn, 1) := by decide +kernel
theorem dX11_feed_14 : decode cX11_feed 14 = .ok (.aload_n 0, 1) := by decide +kernel
theorem dX11_feed_15 : decode cX11_feed 15 = .ok (.getfield 10, 3) := by decide +kernel
theorem dX11_feed_18 : decode cX11_feed 18 = .ok (.iload_n 1, 1) := by decide +kernel
theorem dX11_feed_19 : decode cX11_feed 19 = .ok (.invokevirtual 70, 3) := by decide +kernel
theorem dX11_feed_22 : decode cX11_feed 22 = .ok (.aload_n 0, 1) := by decide +kernel
theorem dX11_feed_23 : decode cX11_feed 23 = .ok (.getfield 10, 3) := by decide +kernel
theorem dX11_feed_26 : decode cX11_feed 26 = .ok (.iload_n 2, 1) := by decide +kernel
theorem dX11_feed_27 : decode cX11_feed 27 = .ok (.invokevirtual 70, 3) := by decide +kernel
theorem dX11_feed_30 : decode cX11_feed 30 = .ok (.aload_n 0, 1) := by decide +kernel
theorem dX11_feed_31 : decode cX11_feed 31 = .ok (.getfield 10, 3) := by decide +kernel
theorem dX11_feed_34 : decode cX11_feed 34 = .ok (.iload_n 3, 1) := by decide +kernel
theorem dX11_feed_35 : decode cX11_feed 35 = .ok (.invokevirtual 70, 3) := by decide +kernel
theorem dX11_feed_38 : decode cX11_feed 38 = .ok (.aload_n 0, 1) := by decide +kernel
theorem dX11_feed_39 : decode cX11_feed 39 = .ok (.getfield 10, 3) := by decide +kernel
theorem dX11_feed_42 : decode cX11_feed 42 = .ok (.iload 4, 2) := by decide +kernel
theorem dX11_feed_44 : decode cX11_feed 44 = .ok (.invokevirtual 70, 3) := by decide +kernel
theorem dX11_feed_47 : decode cX11_feed 47 = .ok (.aload_n 0, 1) := by decide +kernel
theorem dX11_feed_48 : decode cX11_feed 48 = .ok (.getfield 10, 3) := by decide +kernel
theorem dX11_feed_51 : decode cX11_feed 51 = .ok (.iload 5, 2) := by decide +kernel
theorem dX11_feed_53 : decode cX11_feed 53 = .ok (.invokevirtual 70, 3) := by decide +kernel
theorem dX11_feed_56 : decode cX11_feed 56 = .ok (.aload_n 0, 1) := by decide +kernel
theorem dX11_feed_57 : decode cX11_feed 57 = .ok (.getfield 10, 3) := by decide +kernel
theorem dX11_feed_60 : decode cX11_feed 60 = .ok (.getfield 74, 3) := by decide +kernel
theorem dX11_feed_63 : decode cX11_feed 63 = .ok (.ireturn, 1) := by decide +kernel
theorem dX11_end_0 : decode cX11_end 0 = .ok (.iload_n 1, 1) := by decide +kernel
theorem dX11_end_1 : decode cX11_end 1 = .ok (.ifCond .lt 14, 3) := by decide +kernel
theorem dX11_end_4 : decode cX11_end 4 = .ok (.iload_n 1, 1) := by decide +kernel
theorem dX11_end_5 : decode cX11_end 5 = .ok (.aload_n 0, 1) := by decide +kernel
theorem dX11_end_6 : decode cX11_end 6 = .ok (.getfield 10, 3) := by decide +kernel
theorem dX11_end_9 : decode cX11_end 9 = .ok (.getfield 74, 3) := by decide +kernel
theorem dX11_end_12 : decode cX11_end 12 = .ok (.if_icmp .le 5, 3) := by decide +kernel
theorem dX11_end_15 : decode cX11_end 15 = .ok (.iconst (-1), 1) := by decide +kernel
theorem dX11_end_16 : decode cX11_end 16 = .ok (.ireturn, 1) := by decide +kernel
theorem dX11_end_17 : decode cX11_end 17 = .ok (.aload_n 0, 1) := by decide +kernel
theorem dX11_end_18 : decode cX11_end 18 = .ok (.getfield 10, 3) := by decide +kernel
theorem dX11_end_21 : decode cX11_end 21 = .ok (.iload_n 1, 1) := by decide +kernel
theorem dX11_end_22 : decode cX11_end 22 = .ok (.putfield 74, 3) := by decide +kernel
theorem dX11_end_25 : decode cX11_end 25 = .ok (.iload_n 1, 1) := by decide +kernel
theorem dX11_end_26 : decode cX11_end 26 = .ok (.ireturn, 1) := by decide +kernel
theorem dX11_station_0 : decode cX11_station 0 = .ok (.aload_n 0, 1) := by decide +kernel
theorem dX11_station_1 : decode cX11_station 1 = .ok (.getfield 10, 3) := by decide +kernel
theorem dX11_station_4 : decode cX11_station 4 = .ok (.iconst 0, 1) := by decide +kernel
theorem dX11_station_5 : decode cX11_station 5 = .ok (.aload_n 0, 1) := by decide +kernel
theorem dX11_station_6 : decode cX11_station 6 = .ok (.getfield 10, 3) := by decide +kernel
theorem dX11_station_9 : decode cX11_station 9 = .ok (.getfield 74, 3) := by decide +kernel
theorem dX11_station_12 : decode cX11_station 12 = .ok (.invokevirtual 78, 3) := by decide +kernel
theorem dX11_station_15 : decode cX11_station 15 = .ok (.lstore 5, 2) := by decide +kernel
theorem dX11_station_17 : decode cX11_station 17 = .ok (.aload_n 0, 1) := by decide +kernel
theorem dX11_station_18 : decode cX11_station 18 = .ok (.getfield 10, 3) := by decide +kernel
theorem dX11_station_21 : decode cX11_station 21 = .ok (.iconst 0, 1) := by decide +kernel
theorem dX11_station_22 : decode cX11_station 22 = .ok (.putfield 74, 3) := by decide +kernel
theorem dX11_station_25 : decode cX11_station 25 = .ok (.iload_n 1, 1) := by decide +kernel
theorem dX11_station_26 : decode cX11_station 26 = .ok (.iconst 5, 1) := by decide +kernel
theorem dX11_station_27 : decode cX11_station 27 = .ok (.invokestatic 82, 3) := by decide +kernel
theorem dX11_station_30 : decode cX11_station 30 = .ok (.ifCond .eq 31, 3) := by decide +kernel
theorem dX11_station_33 : decode cX11_station 33 = .ok (.iload_n 2, 1) := by decide +kernel
theorem dX11_station_34 : decode cX11_station 34 = .ok (.bipush 40, 2) := by decide +kernel
theorem dX11_station_36 : decode cX11_station 36 = .ok (.invokestatic 82, 3) := by decide +kernel
theorem dX11_station_39 : decode cX11_station 39 = .ok (.ifCond .eq 22, 3) := by decide +kernel
theorem dX11_station_42 : decode cX11_station 42 = .ok (.iload_n 3, 1) := by decide +kernel
theorem dX11_station_43 : decode cX11_station 43 = .ok (.bipush 100, 2) := by decide +kernel
theorem dX11_station_45 : decode cX11_station 45 = .ok (.invokestatic 82, 3) := by decide +kernel
theorem dX11_station_48 : decode cX11_station 48 = .ok (.ifCond .eq 13, 3) := by decide +kernel
theorem dX11_station_51 : decode cX11_station 51 = .ok (.iload 4, 2) := by decide +kernel
theorem dX11_station_53 : decode cX11_station 53 = .ok (.bipush 100, 2) := by decide +kernel
theorem dX11_station_55 : decode cX11_station 55 = .ok (.invokestatic 82, 3) := by decide +kernel
theorem dX11_station_58 : decode cX11_station 58 = .ok (.ifCond .ne 5, 3) := by decide +kernel
theorem dX11_station_61 : decode cX11_station 61 = .ok (.iconst (-1), 1) := by decide +kernel
theorem dX11_station_62 : decode cX11_station 62 = .ok (.ireturn, 1) := by decide +kernel
theorem dX11_station_63 : decode cX11_station 63 = .ok (.lload 5, 2) := by decide +kernel
theorem dX11_station_65 : decode cX11_station 65 = .ok (.lconst 0, 1) := by decide +kernel
theorem dX11_station_66 : decode cX11_station 66 = .ok (.lcmp, 1) := by decide +kernel
theorem dX11_station_67 : decode cX11_station 67 = .ok (.ifCond .ne 6, 3) := by decide +kernel
theorem dX11_station_70 : decode cX11_station 70 = .ok (.bipush (-2), 2) := by decide +kernel
theorem dX11_station_72 : decode cX11_station 72 = .ok (.ireturn, 1) := by decide +kernel
theorem dX11_station_73 : decode cX11_station 73 = .ok (.aload_n 0, 1) := by decide +kernel
theorem dX11_station_74 : decode cX11_station 74 = .ok (.getfield 19, 3) := by decide +kernel
theorem dX11_station_77 : decode cX11_station 77 = .ok (.lload 5, 2) := by decide +kernel
theorem dX11_station_79 : decode cX11_station 79 = .ok (.invokevirtual 86, 3) := by decide +kernel
theorem dX11_station_82 : decode cX11_station 82 = .ok (.iconst (-1), 1) := by decide +kernel
theorem dX11_station_83 : decode cX11_station 83 = .ok (.if_icmp .eq 6, 3) := by decide +kernel
theorem dX11_station_86 : decode cX11_station 86 = .ok (.bipush (-3), 2) := by decide +kernel
theorem dX11_station_88 : decode cX11_station 88 = .ok (.ireturn, 1) := by decide +kernel
theorem dX11_station_89 : decode cX11_station 89 = .ok (.aload_n 0, 1) := by decide +kernel
theorem dX11_station_90 : decode cX11_station 90 = .ok (.getfield 19, 3) := by decide +kernel
theorem dX11_station_93 : decode cX11_station 93 = .ok (.getfield 90, 3) := by decide +kernel
theorem dX11_station_96 : decode cX11_station 96 = .ok (.bipush 12, 2) := by decide +kernel
theorem dX11_station_98 : decode cX11_station 98 = .ok (.if_icmp .lt 6, 3) := by decide +kernel
theorem dX11_station_101 : decode cX11_station 101 = .ok (.bipush (-4), 2) := by decide +kernel
theorem dX11_station_103 : decode cX11_station 103 = .ok (.ireturn, 1) := by decide +kernel
theorem dX11_station_104 : decode cX11_station 104 = .ok (.aload_n 0, 1) := by decide +kernel
theorem dX11_station_105 : decode cX11_station 105 = .ok (.getfield 44, 3) := by decide +kernel
theorem dX11_station_108 : decode cX11_station 108 = .ok (.iconst 0, 1) := by decide +kernel
theorem dX11_station_109 : decode cX11_station 109 = .ok (.putfield 91, 3) := by decide +kernel
theorem dX11_station_112 : decode cX11_station 112 = .ok (.aload_n 0, 1) := by decide +kernel
theorem dX11_station_113 : decode cX11_station 113 = .ok (.getfield 19, 3) := by decide +kernel
theorem dX11_station_116 : decode cX11_station 116 = .ok (.new 95, 3) := by decide +kernel
theorem dX11_station_119 : decode cX11_station 119 = .ok (.dup, 1) := by decide +kernel
theorem dX11_station_120 : decode cX11_station 120 = .ok (.iload_n 1, 1) := by decide +kernel
theorem dX11_station_121 : decode cX11_station 121 = .ok (.iload_n 2, 1) := by decide +kernel
theorem dX11_station_122 : decode cX11_station 122 = .ok (.iload_n 3, 1) := by decide +kernel
theorem dX11_station_123 : decode cX11_station 123 = .ok (.iload 4, 2) := by decide +kernel
theorem dX11_station_125 : decode cX11_station 125 = .ok (.lload 5, 2) := by decide +kernel
theorem dX11_station_127 : decode cX11_station 127 = .ok (.invokespecial 97, 3) := by decide +kernel
theorem dX11_station_130 : decode cX11_station 130 = .ok (.invokevirtual 100, 3) := by decide +kernel
theorem dX11_station_133 : decode cX11_station 133 = .ok (.ireturn, 1) := by decide +kernel
theorem dX11_join_0 : decode cX11_join 0 = .ok (.aload_n 0, 1) := by decide +kernel
theorem dX11_join_1 : decode cX11_join 1 = .ok (.getfield 19, 3) := by decide +kernel
theorem dX11_join_4 : decode cX11_join 4 = .ok (.iload_n 1, 1) := by decide +kernel
theorem dX11_join_5 : decode cX11_join 5 = .ok (.invokevirtual 103, 3) := by decide +kernel
theorem dX11_join_8 : decode cX11_join 8 = .ok (.astore_n 3, 1) := by decide +kernel
theorem dX11_join_9 : decode cX11_join 9 = .ok (.aload_n 0, 1) := by decide +kernel
theorem dX11_join_10 : decode cX11_join 10 = .ok (.getfield 19, 3) := by decide +kernel
theorem dX11_join_13 : decode cX11_join 13 = .ok (.iload_n 2, 1) := by decide +kernel
theorem dX11_join_14 : decode cX11_join 14 = .ok (.invokevirtual 103, 3) := by decide +kernel
