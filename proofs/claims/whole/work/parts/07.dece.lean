theorem dX12_lay_23 : decode cX12_lay 23 = .ok (.imul, 1) := by decide +kernel
theorem dX12_lay_24 : decode cX12_lay 24 = .ok (.bipush 16, 2) := by decide +kernel
theorem dX12_lay_26 : decode cX12_lay 26 = .ok (.iload_n 3, 1) := by decide +kernel
theorem dX12_lay_27 : decode cX12_lay 27 = .ok (.imul, 1) := by decide +kernel
theorem dX12_lay_28 : decode cX12_lay 28 = .ok (.iadd, 1) := by decide +kernel
theorem dX12_lay_29 : decode cX12_lay 29 = .ok (.iload 4, 2) := by decide +kernel
theorem dX12_lay_31 : decode cX12_lay 31 = .ok (.iadd, 1) := by decide +kernel
theorem dX12_lay_32 : decode cX12_lay 32 = .ok (.istore 5, 2) := by decide +kernel
theorem dX12_lay_34 : decode cX12_lay 34 = .ok (.bipush 48, 2) := by decide +kernel
theorem dX12_lay_36 : decode cX12_lay 36 = .ok (.iload_n 2, 1) := by decide +kernel
theorem dX12_lay_37 : decode cX12_lay 37 = .ok (.imul, 1) := by decide +kernel
theorem dX12_lay_38 : decode cX12_lay 38 = .ok (.bipush 16, 2) := by decide +kernel
theorem dX12_lay_40 : decode cX12_lay 40 = .ok (.iload_n 3, 1) := by decide +kernel
theorem dX12_lay_41 : decode cX12_lay 41 = .ok (.imul, 1) := by decide +kernel
theorem dX12_lay_42 : decode cX12_lay 42 = .ok (.iadd, 1) := by decide +kernel
theorem dX12_lay_43 : decode cX12_lay 43 = .ok (.iload 4, 2) := by decide +kernel
theorem dX12_lay_45 : decode cX12_lay 45 = .ok (.iadd, 1) := by decide +kernel
theorem dX12_lay_46 : decode cX12_lay 46 = .ok (.istore 6, 2) := by decide +kernel
theorem dX12_lay_48 : decode cX12_lay 48 = .ok (.aload_n 0, 1) := by decide +kernel
theorem dX12_lay_49 : decode cX12_lay 49 = .ok (.getfield 111, 3) := by decide +kernel
theorem dX12_lay_52 : decode cX12_lay 52 = .ok (.iload 4, 2) := by decide +kernel
theorem dX12_lay_54 : decode cX12_lay 54 = .ok (.iconst 0, 1) := by decide +kernel
theorem dX12_lay_55 : decode cX12_lay 55 = .ok (.bastore, 1) := by decide +kernel
theorem dX12_lay_56 : decode cX12_lay 56 = .ok (.aload_n 0, 1) := by decide +kernel
theorem dX12_lay_57 : decode cX12_lay 57 = .ok (.iload 5, 2) := by decide +kernel
theorem dX12_lay_59 : decode cX12_lay 59 = .ok (.invokevirtual 307, 3) := by decide +kernel
theorem dX12_lay_62 : decode cX12_lay 62 = .ok (.ifCond .eq 35, 3) := by decide +kernel
theorem dX12_lay_65 : decode cX12_lay 65 = .ok (.aload_n 0, 1) := by decide +kernel
theorem dX12_lay_66 : decode cX12_lay 66 = .ok (.getfield 56, 3) := by decide +kernel
theorem dX12_lay_69 : decode cX12_lay 69 = .ok (.iload 5, 2) := by decide +kernel
theorem dX12_lay_71 : decode cX12_lay 71 = .ok (.iaload, 1) := by decide +kernel
theorem dX12_lay_72 : decode cX12_lay 72 = .ok (.iload_n 2, 1) := by decide +kernel
theorem dX12_lay_73 : decode cX12_lay 73 = .ok (.if_icmp .ne 24, 3) := by decide +kernel
theorem dX12_lay_76 : decode cX12_lay 76 = .ok (.aload_n 0, 1) := by decide +kernel
theorem dX12_lay_77 : decode cX12_lay 77 = .ok (.getfield 102, 3) := by decide +kernel
theorem dX12_lay_80 : decode cX12_lay 80 = .ok (.aload_n 0, 1) := by decide +kernel
theorem dX12_lay_81 : decode cX12_lay 81 = .ok (.getfield 332, 3) := by decide +kernel
theorem dX12_lay_84 : decode cX12_lay 84 = .ok (.iload 5, 2) := by decide +kernel
theorem dX12_lay_86 : decode cX12_lay 86 = .ok (.iastore, 1) := by decide +kernel
theorem dX12_lay_87 : decode cX12_lay 87 = .ok (.aload_n 0, 1) := by decide +kernel
theorem dX12_lay_88 : decode cX12_lay 88 = .ok (.dup, 1) := by decide +kernel
theorem dX12_lay_89 : decode cX12_lay 89 = .ok (.getfield 332, 3) := by decide +kernel
theorem dX12_lay_92 : decode cX12_lay 92 = .ok (.iconst 1, 1) := by decide +kernel
theorem dX12_lay_93 : decode cX12_lay 93 = .ok (.iadd, 1) := by decide +kernel
theorem dX12_lay_94 : decode cX12_lay 94 = .ok (.putfield 332, 3) := by decide +kernel
theorem dX12_lay_97 : decode cX12_lay 97 = .ok (.aload_n 0, 1) := by decide +kernel
theorem dX12_lay_98 : decode cX12_lay 98 = .ok (.iload 6, 2) := by decide +kernel
theorem dX12_lay_100 : decode cX12_lay 100 = .ok (.invokevirtual 307, 3) := by decide +kernel
theorem dX12_lay_103 : decode cX12_lay 103 = .ok (.ifCond .eq 35, 3) := by decide +kernel
theorem dX12_lay_106 : decode cX12_lay 106 = .ok (.aload_n 0, 1) := by decide +kernel
theorem dX12_lay_107 : decode cX12_lay 107 = .ok (.getfield 56, 3) := by decide +kernel
theorem dX12_lay_110 : decode cX12_lay 110 = .ok (.iload 6, 2) := by decide +kernel
theorem dX12_lay_112 : decode cX12_lay 112 = .ok (.iaload, 1) := by decide +kernel
theorem dX12_lay_113 : decode cX12_lay 113 = .ok (.iload_n 1, 1) := by decide +kernel
theorem dX12_lay_114 : decode cX12_lay 114 = .ok (.if_icmp .ne 24, 3) := by decide +kernel
theorem dX12_lay_117 : decode cX12_lay 117 = .ok (.aload_n 0, 1) := by decide +kernel
theorem dX12_lay_118 : decode cX12_lay 118 = .ok (.getfield 105, 3) := by decide +kernel
theorem dX12_lay_121 : decode cX12_lay 121 = .ok (.aload_n 0, 1) := by decide +kernel
theorem dX12_lay_122 : decode cX12_lay 122 = .ok (.getfield 325, 3) := by decide +kernel
theorem dX12_lay_125 : decode cX12_lay 125 = .ok (.iload 6, 2) := by decide +kernel
theorem dX12_lay_127 : decode cX12_lay 127 = .ok (.iastore, 1) := by decide +kernel
theorem dX12_lay_128 : decode cX12_lay 128 = .ok (.aload_n 0, 1) := by decide +kernel
theorem dX12_lay_129 : decode cX12_lay 129 = .ok (.dup, 1) := by decide +kernel
theorem dX12_lay_130 : decode cX12_lay 130 = .ok (.getfield 325, 3) := by decide +kernel
theorem dX12_lay_133 : decode cX12_lay 133 = .ok (.iconst 1, 1) := by decide +kernel
theorem dX12_lay_134 : decode cX12_lay 134 = .ok (.iadd, 1) := by decide +kernel
theorem dX12_lay_135 : decode cX12_lay 135 = .ok (.putfield 325, 3) := by decide +kernel
theorem dX12_lay_138 : decode cX12_lay 138 = .ok (.iinc 4 1, 3) := by decide +kernel
theorem dX12_lay_141 : decode cX12_lay 141 = .ok (.goto (-128), 3) := by decide +kernel
theorem dX12_lay_144 : decode cX12_lay 144 = .ok (.iconst 0, 1) := by decide +kernel
theorem dX12_lay_145 : decode cX12_lay 145 = .ok (.istore 4, 2) := by decide +kernel
theorem dX12_lay_147 : decode cX12_lay 147 = .ok (.iload 4, 2) := by decide +kernel
theorem dX12_lay_149 : decode cX12_lay 149 = .ok (.aload_n 0, 1) := by decide +kernel
theorem dX12_lay_150 : decode cX12_lay 150 = .ok (.getfield 332, 3) := by decide +kernel
theorem dX12_lay_153 : decode cX12_lay 153 = .ok (.if_icmp .ge 70, 3) := by decide +kernel
theorem dX12_lay_156 : decode cX12_lay 156 = .ok (.iconst 0, 1) := by decide +kernel
theorem dX12_lay_157 : decode cX12_lay 157 = .ok (.istore 5, 2) := by decide +kernel
theorem dX12_lay_159 : decode cX12_lay 159 = .ok (.iload 5, 2) := by decide +kernel
theorem dX12_lay_161 : decode cX12_lay 161 = .ok (.aload_n 0, 1) := by decide +kernel
theorem dX12_lay_162 : decode cX12_lay 162 = .ok (.getfield 325, 3) := by decide +kernel
theorem dX12_lay_165 : decode cX12_lay 165 = .ok (.if_icmp .ge 52, 3) := by decide +kernel
theorem dX12_lay_168 : decode cX12_lay 168 = .ok (.aload_n 0, 1) := by decide +kernel
theorem dX12_lay_169 : decode cX12_lay 169 = .ok (.getfield 108, 3) := by decide +kernel
theorem dX12_lay_172 : decode cX12_lay 172 = .ok (.bipush 16, 2) := by decide +kernel
theorem dX12_lay_174 : decode cX12_lay 174 = .ok (.iload 4, 2) := by decide +kernel
theorem dX12_lay_176 : decode cX12_lay 176 = .ok (.imul, 1) := by decide +kernel
theorem dX12_lay_177 : decode cX12_lay 177 = .ok (.iload 5, 2) := by decide +kernel
theorem dX12_lay_179 : decode cX12_lay 179 = .ok (.iadd, 1) := by decide +kernel
theorem dX12_lay_180 : decode cX12_lay 180 = .ok (.aload_n 0, 1) := by decide +kernel
theorem dX12_lay_181 : decode cX12_lay 181 = .ok (.aload_n 0, 1) := by decide +kernel
theorem dX12_lay_182 : decode cX12_lay 182 = .ok (.getfield 102, 3) := by decide +kernel
theorem dX12_lay_185 : decode cX12_lay 185 = .ok (.iload 4, 2) := by decide +kernel
theorem dX12_lay_187 : decode cX12_lay 187 = .ok (.iaload, 1) := by decide +kernel
theorem dX12_lay_188 : decode cX12_lay 188 = .ok (.aload_n 0, 1) := by decide +kernel
theorem dX12_lay_189 : decode cX12_lay 189 = .ok (.getfield 105, 3) := by decide +kernel
theorem dX12_lay_192 : decode cX12_lay 192 = .ok (.iload 5, 2) := by decide +kernel
theorem dX12_lay_194 : decode cX12_lay 194 = .ok (.iaload, 1) := by decide +kernel
theorem dX12_lay_195 : decode cX12_lay 195 = .ok (.aload_n 0, 1) := by decide +kernel
theorem dX12_lay_196 : decode cX12_lay 196 = .ok (.getfield 62, 3) := by decide +kernel
theorem dX12_lay_199 : decode cX12_lay 199 = .ok (.iload_n 1, 1) := by decide +kernel
theorem dX12_lay_200 : decode cX12_lay 200 = .ok (.laload, 1) := by decide +kernel
theorem dX12_lay_201 : decode cX12_lay 201 = .ok (.aload_n 0, 1) := by decide +kernel
theorem dX12_lay_202 : decode cX12_lay 202 = .ok (.getfield 62, 3) := by decide +kernel
theorem dX12_lay_205 : decode cX12_lay 205 = .ok (.iload_n 2, 1) := by decide +kernel
theorem dX12_lay_206 : decode cX12_lay 206 = .ok (.laload, 1) := by decide +kernel
theorem dX12_lay_207 : decode cX12_lay 207 = .ok (.invokevirtual 310, 3) := by decide +kernel
theorem dX12_lay_210 : decode cX12_lay 210 = .ok (.lastore, 1) := by decide +kernel
theorem dX12_lay_211 : decode cX12_lay 211 = .ok (.iinc 5 1, 3) := by decide +kernel
theorem dX12_lay_214 : decode cX12_lay 214 = .ok (.goto (-55), 3) := by decide +kernel
theorem dX12_lay_217 : decode cX12_lay 217 = .ok (.iinc 4 1, 3) := by decide +kernel
theorem dX12_lay_220 : decode cX12_lay 220 = .ok (.goto (-73), 3) := by decide +kernel
theorem dX12_lay_223 : decode cX12_lay 223 = .ok (.return_, 1) := by decide +kernel
theorem dX12_pairAll_0 : decode cX12_pairAll 0 = .ok (.aload_n 0, 1) := by decide +kernel
theorem dX12_pairAll_1 : decode cX12_pairAll 1 = .ok (.iload_n 1, 1) := by decide +kernel
theorem dX12_pairAll_2 : decode cX12_pairAll 2 = .ok (.iload_n 2, 1) := by decide +kernel
theorem dX12_pairAll_3 : decode cX12_pairAll 3 = .ok (.iload_n 3, 1) := by decide +kernel
theorem dX12_pairAll_4 : decode cX12_pairAll 4 = .ok (.invokevirtual 344, 3) := by decide +kernel
theorem dX12_pairAll_7 : decode cX12_pairAll 7 = .ok (.aload_n 0, 1) := by decide +kernel
theorem dX12_pairAll_8 : decode cX12_pairAll 8 = .ok (.iconst 0, 1) := by decide +kernel
theorem dX12_pairAll_9 : decode cX12_pairAll 9 = .ok (.invokevirtual 348, 3) := by decide +kernel
theorem dX12_pairAll_12 : decode cX12_pairAll 12 = .ok (.aload_n 0, 1) := by decide +kernel
theorem dX12_pairAll_13 : decode cX12_pairAll 13 = .ok (.getfield 338, 3) := by decide +kernel
theorem dX12_pairAll_16 : decode cX12_pairAll 16 = .ok (.istore 4, 2) := by decide +kernel
theorem dX12_pairAll_18 : decode cX12_pairAll 18 = .ok (.aload_n 0, 1) := by decide +kernel
theorem dX12_pairAll_19 : decode cX12_pairAll 19 = .ok (.getfield 335, 3) := by decide +kernel
theorem dX12_pairAll_22 : decode cX12_pairAll 22 = .ok (.lstore 5, 2) := by decide +kernel
theorem dX12_pairAll_24 : decode cX12_pairAll 24 = .ok (.iconst 0, 1) := by decide +kernel
theorem dX12_pairAll_25 : decode cX12_pairAll 25 = .ok (.istore 7, 2) := by decide +kernel
theorem dX12_pairAll_27 : decode cX12_pairAll 27 = .ok (.iload 7, 2) := by decide +kernel
theorem dX12_pairAll_29 : decode cX12_pairAll 29 = .ok (.aload_n 0, 1) := by decide +kernel
theorem dX12_pairAll_30 : decode cX12_pairAll 30 = .ok (.getfield 332, 3) := by decide +kernel
theorem dX12_pairAll_33 : decode cX12_pairAll 33 = .ok (.if_icmp .ge 194, 3) := by decide +kernel
theorem dX12_pairAll_36 : decode cX12_pairAll 36 = .ok (.iconst 0, 1) := by decide +kernel
theorem dX12_pairAll_37 : decode cX12_pairAll 37 = .ok (.istore 8, 2) := by decide +kernel
theorem dX12_pairAll_39 : decode cX12_pairAll 39 = .ok (.iload 8, 2) := by decide +kernel
theorem dX12_pairAll_41 : decode cX12_pairAll 41 = .ok (.aload_n 0, 1) := by decide +kernel
theorem dX12_pairAll_42 : decode cX12_pairAll 42 = .ok (.getfield 325, 3) := by decide +kernel
theorem dX12_pairAll_45 : decode cX12_pairAll 45 = .ok (.if_icmp .ge 176, 3) := by decide +kernel
theorem dX12_pairAll_48 : decode cX12_pairAll 48 = .ok (.aload_n 0, 1) := by decide +kernel
theorem dX12_pairAll_49 : decode cX12_pairAll 49 = .ok (.getfield 108, 3) := by decide +kernel
theorem dX12_pairAll_52 : decode cX12_pairAll 52 = .ok (.bipush 16, 2) := by decide +kernel
theorem dX12_pairAll_54 : decode cX12_pairAll 54 = .ok (.iload 7, 2) := by decide +kernel
theorem dX12_pairAll_56 : decode cX12_pairAll 56 = .ok (.imul, 1) := by decide +kernel
theorem dX12_pairAll_57 : decode cX12_pairAll 57 = .ok (.iload 8, 2) := by decide +kernel
theorem dX12_pairAll_59 : decode cX12_pairAll 59 = .ok (.iadd, 1) := by decide +kernel
theorem dX12_pairAll_60 : decode cX12_pairAll 60 = .ok (.laload, 1) := by decide +kernel
theorem dX12_pairAll_61 : decode cX12_pairAll 61 = .ok (.lconst 0, 1) := by decide +kernel
theorem dX12_pairAll_62 : decode cX12_pairAll 62 = .ok (.lcmp, 1) := by decide +kernel
theorem dX12_pairAll_63 : decode cX12_pairAll 63 = .ok (.ifCond .lt 152, 3) := by decide +kernel
theorem dX12_pairAll_66 : decode cX12_pairAll 66 = .ok (.aload_n 0, 1) := by decide +kernel
theorem dX12_pairAll_67 : decode cX12_pairAll 67 = .ok (.getfield 111, 3) := by decide +kernel
theorem dX12_pairAll_70 : decode cX12_pairAll 70 = .ok (.iload 8, 2) := by decide +kernel
theorem dX12_pairAll_72 : decode cX12_pairAll 72 = .ok (.baload, 1) := by decide +kernel
theorem dX12_pairAll_73 : decode cX12_pairAll 73 = .ok (.ifCond .ne 142, 3) := by decide +kernel
theorem dX12_pairAll_76 : decode cX12_pairAll 76 = .ok (.aload_n 0, 1) := by decide +kernel
theorem dX12_pairAll_77 : decode cX12_pairAll 77 = .ok (.getfield 59, 3) := by decide +kernel
theorem dX12_pairAll_80 : decode cX12_pairAll 80 = .ok (.aload_n 0, 1) := by decide +kernel
theorem dX12_pairAll_81 : decode cX12_pairAll 81 = .ok (.getfield 102, 3) := by decide +kernel
theorem dX12_pairAll_84 : decode cX12_pairAll 84 = .ok (.iload 7, 2) := by decide +kernel
theorem dX12_pairAll_86 : decode cX12_pairAll 86 = .ok (.iaload, 1) := by decide +kernel
theorem dX12_pairAll_87 : decode cX12_pairAll 87 = .ok (.iaload, 1) := by decide +kernel
theorem dX12_pairAll_88 : decode cX12_pairAll 88 = .ok (.ifCond .lt 6, 3) := by decide +kernel
theorem dX12_pairAll_91 : decode cX12_pairAll 91 = .ok (.goto 124, 3) := by decide +kernel
theorem dX12_pairAll_94 : decode cX12_pairAll 94 = .ok (.aload_n 0, 1) := by decide +kernel
theorem dX12_pairAll_95 : decode cX12_pairAll 95 = .ok (.getfield 111, 3) := by decide +kernel
theorem dX12_pairAll_98 : decode cX12_pairAll 98 = .ok (.iload 8, 2) := by decide +kernel
theorem dX12_pairAll_100 : decode cX12_pairAll 100 = .ok (.iconst 1, 1) := by decide +kernel
theorem dX12_pairAll_101 : decode cX12_pairAll 101 = .ok (.bastore, 1) := by decide +kernel
theorem dX12_pairAll_102 : decode cX12_pairAll 102 = .ok (.aload_n 0, 1) := by decide +kernel
theorem dX12_pairAll_103 : decode cX12_pairAll 103 = .ok (.iload 7, 2) := by decide +kernel
theorem dX12_pairAll_105 : decode cX12_pairAll 105 = .ok (.iconst 1, 1) := by decide +kernel
theorem dX12_pairAll_106 : decode cX12_pairAll 106 = .ok (.iadd, 1) := by decide +kernel
theorem dX12_pairAll_107 : decode cX12_pairAll 107 = .ok (.invokevirtual 348, 3) := by decide +kernel
theorem dX12_pairAll_110 : decode cX12_pairAll 110 = .ok (.iconst 1, 1) := by decide +kernel
theorem dX12_pairAll_111 : decode cX12_pairAll 111 = .ok (.aload_n 0, 1) := by decide +kernel
theorem dX12_pairAll_112 : decode cX12_pairAll 112 = .ok (.getfield 338, 3) := by decide +kernel
theorem dX12_pairAll_115 : decode cX12_pairAll 115 = .ok (.iadd, 1) := by decide +kernel
theorem dX12_pairAll_116 : decode cX12_pairAll 116 = .ok (.iload 4, 2) := by decide +kernel
theorem dX12_pairAll_118 : decode cX12_pairAll 118 = .ok (.if_icmp .ne 89, 3) := by decide +kernel
theorem dX12_pairAll_121 : decode cX12_pairAll 121 = .ok (.aload_n 0, 1) := by decide +kernel
theorem dX12_pairAll_122 : decode cX12_pairAll 122 = .ok (.getfield 108, 3) := by decide +kernel
theorem dX12_pairAll_125 : decode cX12_pairAll 125 = .ok (.bipush 16, 2) := by decide +kernel
theorem dX12_pairAll_127 : decode cX12_pairAll 127 = .ok (.iload 7, 2) := by decide +kernel
theorem dX12_pairAll_129 : decode cX12_pairAll 129 = .ok (.imul, 1) := by decide +kernel
theorem dX12_pairAll_130 : decode cX12_pairAll 130 = .ok (.iload 8, 2) := by decide +kernel
theorem dX12_pairAll_132 : decode cX12_pairAll 132 = .ok (.iadd, 1) := by decide +kernel
theorem dX12_pairAll_133 : decode cX12_pairAll 133 = .ok (.laload, 1) := by decide +kernel
theorem dX12_pairAll_134 : decode cX12_pairAll 134 = .ok (.aload_n 0, 1) := by decide +kernel
theorem dX12_pairAll_135 : decode cX12_pairAll 135 = .ok (.getfield 335, 3) := by decide +kernel
theorem dX12_pairAll_138 : decode cX12_pairAll 138 = .ok (.ladd, 1) := by decide +kernel
theorem dX12_pairAll_139 : decode cX12_pairAll 139 = .ok (.lload 5, 2) := by decide +kernel
theorem dX12_pairAll_141 : decode cX12_pairAll 141 = .ok (.lcmp, 1) := by decide +kernel
theorem dX12_pairAll_142 : decode cX12_pairAll 142 = .ok (.ifCond .ne 65, 3) := by decide +kernel
theorem dX12_pairAll_145 : decode cX12_pairAll 145 = .ok (.aload_n 0, 1) := by decide +kernel
theorem dX12_pairAll_146 : decode cX12_pairAll 146 = .ok (.getfield 59, 3) := by decide +kernel
theorem dX12_pairAll_149 : decode cX12_pairAll 149 = .ok (.aload_n 0, 1) := by decide +kernel
theorem dX12_pairAll_150 : decode cX12_pairAll 150 = .ok (.getfield 102, 3) := by decide +kernel
theorem dX12_pairAll_153 : decode cX12_pairAll 153 = .ok (.iload 7, 2) := by decide +kernel
theorem dX12_pairAll_155 : decode cX12_pairAll 155 = .ok (.iaload, 1) := by decide +kernel
theorem dX12_pairAll_156 : decode cX12_pairAll 156 = .ok (.aload_n 0, 1) := by decide +kernel
theorem dX12_pairAll_157 : decode cX12_pairAll 157 = .ok (.getfield 105, 3) := by decide +kernel
theorem dX12_pairAll_160 : decode cX12_pairAll 160 = .ok (.iload 8, 2) := by decide +kernel
theorem dX12_pairAll_162 : decode cX12_pairAll 162 = .ok (.iaload, 1) := by decide +kernel
theorem dX12_pairAll_163 : decode cX12_pairAll 163 = .ok (.iastore, 1) := by decide +kernel
theorem dX12_pairAll_164 : decode cX12_pairAll 164 = .ok (.aload_n 0, 1) := by decide +kernel
theorem dX12_pairAll_165 : decode cX12_pairAll 165 = .ok (.getfield 59, 3) := by decide +kernel
theorem dX12_pairAll_168 : decode cX12_pairAll 168 = .ok (.aload_n 0, 1) := by decide +kernel
theorem dX12_pairAll_169 : decode cX12_pairAll 169 = .ok (.getfield 105, 3) := by decide +kernel
theorem dX12_pairAll_172 : decode cX12_pairAll 172 = .ok (.iload 8, 2) := by decide +kernel
theorem dX12_pairAll_174 : decode cX12_pairAll 174 = .ok (.iaload, 1) := by decide +kernel
theorem dX12_pairAll_175 : decode cX12_pairAll 175 = .ok (.aload_n 0, 1) := by decide +kernel
theorem dX12_pairAll_176 : decode cX12_pairAll 176 = .ok (.getfield 102, 3) := by decide +kernel
theorem dX12_pairAll_179 : decode cX12_pairAll 179 = .ok (.iload 7, 2) := by decide +kernel
theorem dX12_pairAll_181 : decode cX12_pairAll 181 = .ok (.iaload, 1) := by decide +kernel
theorem dX12_pairAll_182 : decode cX12_pairAll 182 = .ok (.iastore, 1) := by decide +kernel
theorem dX12_pairAll_183 : decode cX12_pairAll 183 = .ok (.iinc 4 (-1), 3) := by decide +kernel
theorem dX12_pairAll_186 : decode cX12_pairAll 186 = .ok (.lload 5, 2) := by decide +kernel
theorem dX12_pairAll_188 : decode cX12_pairAll 188 = .ok (.aload_n 0, 1) := by decide +kernel
theorem dX12_pairAll_189 : decode cX12_pairAll 189 = .ok (.getfield 108, 3) := by decide +kernel
theorem dX12_pairAll_192 : decode cX12_pairAll 192 = .ok (.bipush 16, 2) := by decide +kernel
theorem dX12_pairAll_194 : decode cX12_pairAll 194 = .ok (.iload 7, 2) := by decide +kernel
theorem dX12_pairAll_196 : decode cX12_pairAll 196 = .ok (.imul, 1) := by decide +kernel
theorem dX12_pairAll_197 : decode cX12_pairAll 197 = .ok (.iload 8, 2) := by decide +kernel
theorem dX12_pairAll_199 : decode cX12_pairAll 199 = .ok (.iadd, 1) := by decide +kernel
theorem dX12_pairAll_200 : decode cX12_pairAll 200 = .ok (.laload, 1) := by decide +kernel
theorem dX12_pairAll_201 : decode cX12_pairAll 201 = .ok (.lsub, 1) := by decide +kernel
theorem dX12_pairAll_202 : decode cX12_pairAll 202 = .ok (.lstore 5, 2) := by decide +kernel
theorem dX12_pairAll_204 : decode cX12_pairAll 204 = .ok (.goto 11, 3) := by decide +kernel
theorem dX12_pairAll_207 : decode cX12_pairAll 207 = .ok (.aload_n 0, 1) := by decide +kernel
theorem dX12_pairAll_208 : decode cX12_pairAll 208 = .ok (.getfield 111, 3) := by decide +kernel
theorem dX12_pairAll_211 : decode cX12_pairAll 211 = .ok (.iload 8, 2) := by decide +kernel
theorem dX12_pairAll_213 : decode cX12_pairAll 213 = .ok (.iconst 0, 1) := by decide +kernel
theorem dX12_pairAll_214 : decode cX12_pairAll 214 = .ok (.bastore, 1) := by decide +kernel
theorem dX12_pairAll_215 : decode cX12_pairAll 215 = .ok (.iinc 8 1, 3) := by decide +kernel
theorem dX12_pairAll_218 : decode cX12_pairAll 218 = .ok (.goto (-179), 3) := by decide +kernel
theorem dX12_pairAll_221 : decode cX12_pairAll 221 = .ok (.iinc 7 1, 3) := by decide +kernel
theorem dX12_pairAll_224 : decode cX12_pairAll 224 = .ok (.goto (-197), 3) := by decide +kernel
theorem dX12_pairAll_227 : decode cX12_pairAll 227 = .ok (.return_, 1) := by decide +kernel
theorem dX12_check_0 : decode cX12_check 0 = .ok (.aload_n 0, 1) := by decide +kernel
theorem dX12_check_1 : decode cX12_check 1 = .ok (.getfield 186, 3) := by decide +kernel
theorem dX12_check_4 : decode cX12_check 4 = .ok (.ifCond .eq 4, 3) := by decide +kernel
theorem dX12_check_7 : decode cX12_check 7 = .ok (.return_, 1) := by decide +kernel
theorem dX12_check_8 : decode cX12_check 8 = .ok (.aload_n 0, 1) := by decide +kernel
theorem dX12_check_9 : decode cX12_check 9 = .ok (.iconst 1, 1) := by decide +kernel
theorem dX12_check_10 : decode cX12_check 10 = .ok (.putfield 186, 3) := by decide +kernel
theorem dX12_check_13 : decode cX12_check 13 = .ok (.aload_n 0, 1) := by decide +kernel
theorem dX12_check_14 : decode cX12_check 14 = .ok (.invokevirtual 351, 3) := by decide +kernel
theorem dX12_check_17 : decode cX12_check 17 = .ok (.iconst 0, 1) := by decide +kernel
theorem dX12_check_18 : decode cX12_check 18 = .ok (.istore_n 1, 1) := by decide +kernel
theorem dX12_check_19 : decode cX12_check 19 = .ok (.iload_n 1, 1) := by decide +kernel
theorem dX12_check_20 : decode cX12_check 20 = .ok (.aload_n 0, 1) := by decide +kernel
theorem dX12_check_21 : decode cX12_check 21 = .ok (.getfield 130, 3) := by decide +kernel
theorem dX12_check_24 : decode cX12_check 24 = .ok (.if_icmp .ge 32, 3) := by decide +kernel
theorem dX12_check_27 : decode cX12_check 27 = .ok (.aload_n 0, 1) := by decide +kernel
theorem dX12_check_28 : decode cX12_check 28 = .ok (.getfield 62, 3) := by decide +kernel
theorem dX12_check_31 : decode cX12_check 31 = .ok (.iload_n 1, 1) := by decide +kernel
theorem dX12_check_32 : decode cX12_check 32 = .ok (.aload_n 0, 1) := by decide +kernel
theorem dX12_check_33 : decode cX12_check 33 = .ok (.iload_n 1, 1) := by decide +kernel
theorem dX12_check_34 : decode cX12_check 34 = .ok (.invokevirtual 314, 3) := by decide +kernel
theorem dX12_check_37 : decode cX12_check 37 = .ok (.ifCond .eq 11, 3) := by decide +kernel
theorem dX12_check_40 : decode cX12_check 40 = .ok (.aload_n 0, 1) := by decide +kernel
theorem dX12_check_41 : decode cX12_check 41 = .ok (.iload_n 1, 1) := by decide +kernel
theorem dX12_check_42 : decode cX12_check 42 = .ok (.invokevirtual 354, 3) := by decide +kernel
theorem dX12_check_45 : decode cX12_check 45 = .ok (.goto 4, 3) := by decide +kernel
theorem dX12_check_48 : decode cX12_check 48 = .ok (.lconst 0, 1) := by decide +kernel
theorem dX12_check_49 : decode cX12_check 49 = .ok (.lastore, 1) := by decide +kernel
theorem dX12_check_50 : decode cX12_check 50 = .ok (.iinc 1 1, 3) := by decide +kernel
theorem dX12_check_53 : decode cX12_check 53 = .ok (.goto (-34), 3) := by decide +kernel
theorem dX12_check_56 : decode cX12_check 56 = .ok (.iconst 0, 1) := by decide +kernel
theorem dX12_check_57 : decode cX12_check 57 = .ok (.istore_n 1, 1) := by decide +kernel
theorem dX12_check_58 : decode cX12_check 58 = .ok (.iload_n 1, 1) := by decide +kernel
theorem dX12_check_59 : decode cX12_check 59 = .ok (.aload_n 0, 1) := by decide +kernel
theorem dX12_check_60 : decode cX12_check 60 = .ok (.getfield 130, 3) := by decide +kernel
theorem dX12_check_63 : decode cX12_check 63 = .ok (.if_icmp .ge 47, 3) := by decide +kernel
theorem dX12_check_66 : decode cX12_check 66 = .ok (.iload_n 1, 1) := by decide +kernel
theorem dX12_check_67 : decode cX12_check 67 = .ok (.iconst 1, 1) := by decide +kernel
theorem dX12_check_68 : decode cX12_check 68 = .ok (.iadd, 1) := by decide +kernel
theorem dX12_check_69 : decode cX12_check 69 = .ok (.istore_n 2, 1) := by decide +kernel
theorem dX12_check_70 : decode cX12_check 70 = .ok (.iload_n 2, 1) := by decide +kernel
theorem dX12_check_71 : decode cX12_check 71 = .ok (.aload_n 0, 1) := by decide +kernel
theorem dX12_check_72 : decode cX12_check 72 = .ok (.getfield 130, 3) := by decide +kernel
theorem dX12_check_75 : decode cX12_check 75 = .ok (.if_icmp .ge 29, 3) := by decide +kernel
theorem dX12_check_78 : decode cX12_check 78 = .ok (.iconst 0, 1) := by decide +kernel
theorem dX12_check_79 : decode cX12_check 79 = .ok (.istore_n 3, 1) := by decide +kernel
theorem dX12_check_80 : decode cX12_check 80 = .ok (.iload_n 3, 1) := by decide +kernel
theorem dX12_check_81 : decode cX12_check 81 = .ok (.iconst 3, 1) := by decide +kernel
theorem dX12_check_82 : decode cX12_check 82 = .ok (.if_icmp .ge 16, 3) := by decide +kernel
theorem dX12_check_85 : decode cX12_check 85 = .ok (.aload_n 0, 1) := by decide +kernel
theorem dX12_check_86 : decode cX12_check 86 = .ok (.iload_n 1, 1) := by decide +kernel
theorem dX12_check_87 : decode cX12_check 87 = .ok (.iload_n 2, 1) := by decide +kernel
theorem dX12_check_88 : decode cX12_check 88 = .ok (.iload_n 3, 1) := by decide +kernel
theorem dX12_check_89 : decode cX12_check 89 = .ok (.invokevirtual 358, 3) := by decide +kernel
theorem dX12_check_92 : decode cX12_check 92 = .ok (.iinc 3 1, 3) := by decide +kernel
theorem dX12_check_95 : decode cX12_check 95 = .ok (.goto (-15), 3) := by decide +kernel
theorem dX12_check_98 : decode cX12_check 98 = .ok (.iinc 2 1, 3) := by decide +kernel
theorem dX12_check_101 : decode cX12_check 101 = .ok (.goto (-31), 3) := by decide +kernel
theorem dX12_check_104 : decode cX12_check 104 = .ok (.iinc 1 1, 3) := by decide +kernel
theorem dX12_check_107 : decode cX12_check 107 = .ok (.goto (-49), 3) := by decide +kernel
theorem dX12_check_110 : decode cX12_check 110 = .ok (.return_, 1) := by decide +kernel
theorem dX12_isDupe_0 : decode cX12_isDupe 0 = .ok (.iload_n 1, 1) := by decide +kernel
theorem dX12_isDupe_1 : decode cX12_isDupe 1 = .ok (.bipush 16, 2) := by decide +kernel
theorem dX12_isDupe_3 : decode cX12_isDupe 3 = .ok (.idiv, 1) := by decide +kernel
theorem dX12_isDupe_4 : decode cX12_isDupe 4 = .ok (.bipush 16, 2) := by decide +kernel
theorem dX12_isDupe_6 : decode cX12_isDupe 6 = .ok (.imul, 1) := by decide +kernel
theorem dX12_isDupe_7 : decode cX12_isDupe 7 = .ok (.istore_n 2, 1) := by decide +kernel
theorem dX12_isDupe_8 : decode cX12_isDupe 8 = .ok (.iconst 0, 1) := by decide +kernel
theorem dX12_isDupe_9 : decode cX12_isDupe 9 = .ok (.istore_n 3, 1) := by decide +kernel
theorem dX12_isDupe_10 : decode cX12_isDupe 10 = .ok (.iload_n 2, 1) := by decide +kernel
theorem dX12_isDupe_11 : decode cX12_isDupe 11 = .ok (.istore 4, 2) := by decide +kernel
theorem dX12_isDupe_13 : decode cX12_isDupe 13 = .ok (.iload 4, 2) := by decide +kernel
theorem dX12_isDupe_15 : decode cX12_isDupe 15 = .ok (.iload_n 2, 1) := by decide +kernel
theorem dX12_isDupe_16 : decode cX12_isDupe 16 = .ok (.bipush 16, 2) := by decide +kernel
theorem dX12_isDupe_18 : decode cX12_isDupe 18 = .ok (.iadd, 1) := by decide +kernel
theorem dX12_isDupe_19 : decode cX12_isDupe 19 = .ok (.if_icmp .ge 112, 3) := by decide +kernel
theorem dX12_isDupe_22 : decode cX12_isDupe 22 = .ok (.iload 4, 2) := by decide +kernel
theorem dX12_isDupe_24 : decode cX12_isDupe 24 = .ok (.iload_n 1, 1) := by decide +kernel
theorem dX12_isDupe_25 : decode cX12_isDupe 25 = .ok (.if_icmp .eq 42, 3) := by decide +kernel
theorem dX12_isDupe_28 : decode cX12_isDupe 28 = .ok (.aload_n 0, 1) := by decide +kernel
theorem dX12_isDupe_29 : decode cX12_isDupe 29 = .ok (.iload 4, 2) := by decide +kernel
theorem dX12_isDupe_31 : decode cX12_isDupe 31 = .ok (.invokevirtual 307, 3) := by decide +kernel
theorem dX12_isDupe_34 : decode cX12_isDupe 34 = .ok (.ifCond .eq 33, 3) := by decide +kernel
theorem dX12_isDupe_37 : decode cX12_isDupe 37 = .ok (.aload_n 0, 1) := by decide +kernel
theorem dX12_isDupe_38 : decode cX12_isDupe 38 = .ok (.getfield 59, 3) := by decide +kernel
theorem dX12_isDupe_41 : decode cX12_isDupe 41 = .ok (.iload 4, 2) := by decide +kernel
theorem dX12_isDupe_43 : decode cX12_isDupe 43 = .ok (.iaload, 1) := by decide +kernel
theorem dX12_isDupe_44 : decode cX12_isDupe 44 = .ok (.ifCond .lt 23, 3) := by decide +kernel
theorem dX12_isDupe_47 : decode cX12_isDupe 47 = .ok (.aload_n 0, 1) := by decide +kernel
theorem dX12_isDupe_48 : decode cX12_isDupe 48 = .ok (.getfield 56, 3) := by decide +kernel
theorem dX12_isDupe_51 : decode cX12_isDupe 51 = .ok (.iload 4, 2) := by decide +kernel
theorem dX12_isDupe_53 : decode cX12_isDupe 53 = .ok (.iaload, 1) := by decide +kernel
theorem dX12_isDupe_54 : decode cX12_isDupe 54 = .ok (.aload_n 0, 1) := by decide +kernel
theorem dX12_isDupe_55 : decode cX12_isDupe 55 = .ok (.getfield 56, 3) := by decide +kernel
theorem dX12_isDupe_58 : decode cX12_isDupe 58 = .ok (.iload_n 1, 1) := by decide +kernel
theorem dX12_isDupe_59 : decode cX12_isDupe 59 = .ok (.iaload, 1) := by decide +kernel
theorem dX12_isDupe_60 : decode cX12_isDupe 60 = .ok (.if_icmp .ne 7, 3) := by decide +kernel
theorem dX12_isDupe_63 : decode cX12_isDupe 63 = .ok (.iconst 1, 1) := by decide +kernel
theorem dX12_isDupe_64 : decode cX12_isDupe 64 = .ok (.goto 4, 3) := by decide +kernel
theorem dX12_isDupe_67 : decode cX12_isDupe 67 = .ok (.iconst 0, 1) := by decide +kernel
theorem dX12_isDupe_68 : decode cX12_isDupe 68 = .ok (.istore 5, 2) := by decide +kernel
theorem dX12_isDupe_70 : decode cX12_isDupe 70 = .ok (.iload_n 3, 1) := by decide +kernel
theorem dX12_isDupe_71 : decode cX12_isDupe 71 = .ok (.ifCond .ne 48, 3) := by decide +kernel
theorem dX12_isDupe_74 : decode cX12_isDupe 74 = .ok (.iload 5, 2) := by decide +kernel
theorem dX12_isDupe_76 : decode cX12_isDupe 76 = .ok (.ifCond .eq 47, 3) := by decide +kernel
theorem dX12_isDupe_79 : decode cX12_isDupe 79 = .ok (.aload_n 0, 1) := by decide +kernel
theorem dX12_isDupe_80 : decode cX12_isDupe 80 = .ok (.getfield 37, 3) := by decide +kernel
theorem dX12_isDupe_83 : decode cX12_isDupe 83 = .ok (.iload 4, 2) := by decide +kernel
theorem dX12_isDupe_85 : decode cX12_isDupe 85 = .ok (.laload, 1) := by decide +kernel
theorem dX12_isDupe_86 : decode cX12_isDupe 86 = .ok (.aload_n 0, 1) := by decide +kernel
theorem dX12_isDupe_87 : decode cX12_isDupe 87 = .ok (.getfield 37, 3) := by decide +kernel
theorem dX12_isDupe_90 : decode cX12_isDupe 90 = .ok (.iload_n 1, 1) := by decide +kernel
theorem dX12_isDupe_91 : decode cX12_isDupe 91 = .ok (.laload, 1) := by decide +kernel
theorem dX12_isDupe_92 : decode cX12_isDupe 92 = .ok (.lcmp, 1) := by decide +kernel
theorem dX12_isDupe_93 : decode cX12_isDupe 93 = .ok (.ifCond .lt 26, 3) := by decide +kernel
theorem dX12_isDupe_96 : decode cX12_isDupe 96 = .ok (.aload_n 0, 1) := by decide +kernel
theorem dX12_isDupe_97 : decode cX12_isDupe 97 = .ok (.getfield 37, 3) := by decide +kernel
theorem dX12_isDupe_100 : decode cX12_isDupe 100 = .ok (.iload 4, 2) := by decide +kernel
theorem dX12_isDupe_102 : decode cX12_isDupe 102 = .ok (.laload, 1) := by decide +kernel
theorem dX12_isDupe_103 : decode cX12_isDupe 103 = .ok (.aload_n 0, 1) := by decide +kernel
theorem dX12_isDupe_104 : decode cX12_isDupe 104 = .ok (.getfield 37, 3) := by decide +kernel
theorem dX12_isDupe_107 : decode cX12_isDupe 107 = .ok (.iload_n 1, 1) := by decide +kernel
theorem dX12_isDupe_108 : decode cX12_isDupe 108 = .ok (.laload, 1) := by decide +kernel
theorem dX12_isDupe_109 : decode cX12_isDupe 109 = .ok (.lcmp, 1) := by decide +kernel
theorem dX12_isDupe_110 : decode cX12_isDupe 110 = .ok (.ifCond .ne 13, 3) := by decide +kernel
theorem dX12_isDupe_113 : decode cX12_isDupe 113 = .ok (.iload 4, 2) := by decide +kernel
theorem dX12_isDupe_115 : decode cX12_isDupe 115 = .ok (.iload_n 1, 1) := by decide +kernel
theorem dX12_isDupe_116 : decode cX12_isDupe 116 = .ok (.if_icmp .ge 7, 3) := by decide +kernel
theorem dX12_isDupe_119 : decode cX12_isDupe 119 = .ok (.iconst 1, 1) := by decide +kernel
theorem dX12_isDupe_120 : decode cX12_isDupe 120 = .ok (.goto 4, 3) := by decide +kernel
theorem dX12_isDupe_123 : decode cX12_isDupe 123 = .ok (.iconst 0, 1) := by decide +kernel
theorem dX12_isDupe_124 : decode cX12_isDupe 124 = .ok (.istore_n 3, 1) := by decide +kernel
theorem dX12_isDupe_125 : decode cX12_isDupe 125 = .ok (.iinc 4 1, 3) := by decide +kernel
theorem dX12_isDupe_128 : decode cX12_isDupe 128 = .ok (.goto (-115), 3) := by decide +kernel
theorem dX12_isDupe_131 : decode cX12_isDupe 131 = .ok (.iload_n 3, 1) := by decide +kernel
theorem dX12_isDupe_132 : decode cX12_isDupe 132 = .ok (.ireturn, 1) := by decide +kernel
theorem dX12_isNear_0 : decode cX12_isNear 0 = .ok (.aload_n 0, 1) := by decide +kernel
theorem dX12_isNear_1 : decode cX12_isNear 1 = .ok (.getfield 44, 3) := by decide +kernel
theorem dX12_isNear_4 : decode cX12_isNear 4 = .ok (.iload_n 1, 1) := by decide +kernel
theorem dX12_isNear_5 : decode cX12_isNear 5 = .ok (.iaload, 1) := by decide +kernel
theorem dX12_isNear_6 : decode cX12_isNear 6 = .ok (.aload_n 0, 1) := by decide +kernel
theorem dX12_isNear_7 : decode cX12_isNear 7 = .ok (.getfield 22, 3) := by decide +kernel
theorem dX12_isNear_10 : decode cX12_isNear 10 = .ok (.iload_n 2, 1) := by decide +kernel
theorem dX12_isNear_11 : decode cX12_isNear 11 = .ok (.iaload, 1) := by decide +kernel
theorem dX12_isNear_12 : decode cX12_isNear 12 = .ok (.if_icmp .eq 5, 3) := by decide +kernel
theorem dX12_isNear_15 : decode cX12_isNear 15 = .ok (.iconst 0, 1) := by decide +kernel
theorem dX12_isNear_16 : decode cX12_isNear 16 = .ok (.ireturn, 1) := by decide +kernel
theorem dX12_isNear_17 : decode cX12_isNear 17 = .ok (.iconst 0, 1) := by decide +kernel
theorem dX12_isNear_18 : decode cX12_isNear 18 = .ok (.istore_n 3, 1) := by decide +kernel
theorem dX12_isNear_19 : decode cX12_isNear 19 = .ok (.iconst 0, 1) := by decide +kernel
theorem dX12_isNear_20 : decode cX12_isNear 20 = .ok (.istore 4, 2) := by decide +kernel
theorem dX12_isNear_22 : decode cX12_isNear 22 = .ok (.iload 4, 2) := by decide +kernel
theorem dX12_isNear_24 : decode cX12_isNear 24 = .ok (.aload_n 0, 1) := by decide +kernel
theorem dX12_isNear_25 : decode cX12_isNear 25 = .ok (.getfield 44, 3) := by decide +kernel
theorem dX12_isNear_28 : decode cX12_isNear 28 = .ok (.iload_n 1, 1) := by decide +kernel
theorem dX12_isNear_29 : decode cX12_isNear 29 = .ok (.iaload, 1) := by decide +kernel
theorem dX12_isNear_30 : decode cX12_isNear 30 = .ok (.if_icmp .ge 44, 3) := by decide +kernel
theorem dX12_isNear_33 : decode cX12_isNear 33 = .ok (.iload_n 3, 1) := by decide +kernel
theorem dX12_isNear_34 : decode cX12_isNear 34 = .ok (.aload_n 0, 1) := by decide +kernel
theorem dX12_isNear_35 : decode cX12_isNear 35 = .ok (.getfield 47, 3) := by decide +kernel
theorem dX12_isNear_38 : decode cX12_isNear 38 = .ok (.bipush 6, 2) := by decide +kernel
theorem dX12_isNear_40 : decode cX12_isNear 40 = .ok (.iload_n 1, 1) := by decide +kernel
theorem dX12_isNear_41 : decode cX12_isNear 41 = .ok (.imul, 1) := by decide +kernel
theorem dX12_isNear_42 : decode cX12_isNear 42 = .ok (.iload 4, 2) := by decide +kernel
theorem dX12_isNear_44 : decode cX12_isNear 44 = .ok (.iadd, 1) := by decide +kernel
theorem dX12_isNear_45 : decode cX12_isNear 45 = .ok (.iaload, 1) := by decide +kernel
theorem dX12_isNear_46 : decode cX12_isNear 46 = .ok (.aload_n 0, 1) := by decide +kernel
theorem dX12_isNear_47 : decode cX12_isNear 47 = .ok (.getfield 25, 3) := by decide +kernel
theorem dX12_isNear_50 : decode cX12_isNear 50 = .ok (.bipush 6, 2) := by decide +kernel
theorem dX12_isNear_52 : decode cX12_isNear 52 = .ok (.iload_n 2, 1) := by decide +kernel
theorem dX12_isNear_53 : decode cX12_isNear 53 = .ok (.imul, 1) := by decide +kernel
theorem dX12_isNear_54 : decode cX12_isNear 54 = .ok (.iload 4, 2) := by decide +kernel
theorem dX12_isNear_56 : decode cX12_isNear 56 = .ok (.iadd, 1) := by decide +kernel
theorem dX12_isNear_57 : decode cX12_isNear 57 = .ok (.iaload, 1) := by decide +kernel
theorem dX12_isNear_58 : decode cX12_isNear 58 = .ok (.if_icmp .ne 7, 3) := by decide +kernel
theorem dX12_isNear_61 : decode cX12_isNear 61 = .ok (.iconst 0, 1) := by decide +kernel
theorem dX12_isNear_62 : decode cX12_isNear 62 = .ok (.goto 4, 3) := by decide +kernel
theorem dX12_isNear_65 : decode cX12_isNear 65 = .ok (.iconst 1, 1) := by decide +kernel
theorem dX12_isNear_66 : decode cX12_isNear 66 = .ok (.iadd, 1) := by decide +kernel
theorem dX12_isNear_67 : decode cX12_isNear 67 = .ok (.istore_n 3, 1) := by decide +kernel
theorem dX12_isNear_68 : decode cX12_isNear 68 = .ok (.iinc 4 1, 3) := by decide +kernel
theorem dX12_isNear_71 : decode cX12_isNear 71 = .ok (.goto (-49), 3) := by decide +kernel
theorem dX12_isNear_74 : decode cX12_isNear 74 = .ok (.iload_n 3, 1) := by decide +kernel
theorem dX12_isNear_75 : decode cX12_isNear 75 = .ok (.iconst 1, 1) := by decide +kernel
theorem dX12_isNear_76 : decode cX12_isNear 76 = .ok (.if_icmp .ne 7, 3) := by decide +kernel
theorem dX12_isNear_79 : decode cX12_isNear 79 = .ok (.iconst 1, 1) := by decide +kernel
theorem dX12_isNear_80 : decode cX12_isNear 80 = .ok (.goto 4, 3) := by decide +kernel
theorem dX12_isNear_83 : decode cX12_isNear 83 = .ok (.iconst 0, 1) := by decide +kernel
theorem dX12_isNear_84 : decode cX12_isNear 84 = .ok (.ireturn, 1) := by decide +kernel
theorem dX12_meantBy_0 : decode cX12_meantBy 0 = .ok (.iload_n 1, 1) := by decide +kernel
theorem dX12_meantBy_1 : decode cX12_meantBy 1 = .ok (.bipush 48, 2) := by decide +kernel
theorem dX12_meantBy_3 : decode cX12_meantBy 3 = .ok (.idiv, 1) := by decide +kernel
theorem dX12_meantBy_4 : decode cX12_meantBy 4 = .ok (.istore_n 2, 1) := by decide +kernel
theorem dX12_meantBy_5 : decode cX12_meantBy 5 = .ok (.iconst (-1), 1) := by decide +kernel
theorem dX12_meantBy_6 : decode cX12_meantBy 6 = .ok (.istore_n 3, 1) := by decide +kernel
theorem dX12_meantBy_7 : decode cX12_meantBy 7 = .ok (.lconst 0, 1) := by decide +kernel
theorem dX12_meantBy_8 : decode cX12_meantBy 8 = .ok (.lstore 4, 2) := by decide +kernel
theorem dX12_meantBy_10 : decode cX12_meantBy 10 = .ok (.iconst 0, 1) := by decide +kernel
theorem dX12_meantBy_11 : decode cX12_meantBy 11 = .ok (.istore 6, 2) := by decide +kernel
theorem dX12_meantBy_13 : decode cX12_meantBy 13 = .ok (.iload 6, 2) := by decide +kernel
theorem dX12_meantBy_15 : decode cX12_meantBy 15 = .ok (.aload_n 0, 1) := by decide +kernel
theorem dX12_meantBy_16 : decode cX12_meantBy 16 = .ok (.getfield 130, 3) := by decide +kernel
theorem dX12_meantBy_19 : decode cX12_meantBy 19 = .ok (.if_icmp .ge 174, 3) := by decide +kernel
theorem dX12_meantBy_22 : decode cX12_meantBy 22 = .ok (.iload 6, 2) := by decide +kernel
theorem dX12_meantBy_24 : decode cX12_meantBy 24 = .ok (.iload_n 2, 1) := by decide +kernel
theorem dX12_meantBy_25 : decode cX12_meantBy 25 = .ok (.if_icmp .eq 162, 3) := by decide +kernel
theorem dX12_meantBy_28 : decode cX12_meantBy 28 = .ok (.aload_n 0, 1) := by decide +kernel
theorem dX12_meantBy_29 : decode cX12_meantBy 29 = .ok (.iload_n 1, 1) := by decide +kernel
theorem dX12_meantBy_30 : decode cX12_meantBy 30 = .ok (.iload 6, 2) := by decide +kernel
theorem dX12_meantBy_32 : decode cX12_meantBy 32 = .ok (.invokevirtual 361, 3) := by decide +kernel
theorem dX12_meantBy_35 : decode cX12_meantBy 35 = .ok (.ifCond .ne 6, 3) := by decide +kernel
theorem dX12_meantBy_38 : decode cX12_meantBy 38 = .ok (.goto 149, 3) := by decide +kernel
theorem dX12_meantBy_41 : decode cX12_meantBy 41 = .ok (.bipush 48, 2) := by decide +kernel
theorem dX12_meantBy_43 : decode cX12_meantBy 43 = .ok (.iload 6, 2) := by decide +kernel
theorem dX12_meantBy_45 : decode cX12_meantBy 45 = .ok (.imul, 1) := by decide +kernel
theorem dX12_meantBy_46 : decode cX12_meantBy 46 = .ok (.iload_n 1, 1) := by decide +kernel
theorem dX12_meantBy_47 : decode cX12_meantBy 47 = .ok (.bipush 16, 2) := by decide +kernel
theorem dX12_meantBy_49 : decode cX12_meantBy 49 = .ok (.idiv, 1) := by decide +kernel
theorem dX12_meantBy_50 : decode cX12_meantBy 50 = .ok (.iconst 3, 1) := by decide +kernel
theorem dX12_meantBy_51 : decode cX12_meantBy 51 = .ok (.irem, 1) := by decide +kernel
theorem dX12_meantBy_52 : decode cX12_meantBy 52 = .ok (.bipush 16, 2) := by decide +kernel
theorem dX12_meantBy_54 : decode cX12_meantBy 54 = .ok (.imul, 1) := by decide +kernel
theorem dX12_meantBy_55 : decode cX12_meantBy 55 = .ok (.iadd, 1) := by decide +kernel
theorem dX12_meantBy_56 : decode cX12_meantBy 56 = .ok (.istore 7, 2) := by decide +kernel
theorem dX12_meantBy_58 : decode cX12_meantBy 58 = .ok (.iload 7, 2) := by decide +kernel
theorem dX12_meantBy_60 : decode cX12_meantBy 60 = .ok (.istore 8, 2) := by decide +kernel
theorem dX12_meantBy_62 : decode cX12_meantBy 62 = .ok (.iload 8, 2) := by decide +kernel
theorem dX12_meantBy_64 : decode cX12_meantBy 64 = .ok (.iload 7, 2) := by decide +kernel
theorem dX12_meantBy_66 : decode cX12_meantBy 66 = .ok (.bipush 16, 2) := by decide +kernel
theorem dX12_meantBy_68 : decode cX12_meantBy 68 = .ok (.iadd, 1) := by decide +kernel
theorem dX12_meantBy_69 : decode cX12_meantBy 69 = .ok (.if_icmp .ge 118, 3) := by decide +kernel
theorem dX12_meantBy_72 : decode cX12_meantBy 72 = .ok (.aload_n 0, 1) := by decide +kernel
theorem dX12_meantBy_73 : decode cX12_meantBy 73 = .ok (.iload 8, 2) := by decide +kernel
theorem dX12_meantBy_75 : decode cX12_meantBy 75 = .ok (.invokevirtual 307, 3) := by decide +kernel
theorem dX12_meantBy_78 : decode cX12_meantBy 78 = .ok (.ifCond .eq 103, 3) := by decide +kernel
theorem dX12_meantBy_81 : decode cX12_meantBy 81 = .ok (.aload_n 0, 1) := by decide +kernel
theorem dX12_meantBy_82 : decode cX12_meantBy 82 = .ok (.getfield 59, 3) := by decide +kernel
theorem dX12_meantBy_85 : decode cX12_meantBy 85 = .ok (.iload 8, 2) := by decide +kernel
theorem dX12_meantBy_87 : decode cX12_meantBy 87 = .ok (.iaload, 1) := by decide +kernel
theorem dX12_meantBy_88 : decode cX12_meantBy 88 = .ok (.ifCond .ge 93, 3) := by decide +kernel
theorem dX12_meantBy_91 : decode cX12_meantBy 91 = .ok (.aload_n 0, 1) := by decide +kernel
theorem dX12_meantBy_92 : decode cX12_meantBy 92 = .ok (.getfield 56, 3) := by decide +kernel
theorem dX12_meantBy_95 : decode cX12_meantBy 95 = .ok (.iload 8, 2) := by decide +kernel
theorem dX12_meantBy_97 : decode cX12_meantBy 97 = .ok (.iaload, 1) := by decide +kernel
theorem dX12_meantBy_98 : decode cX12_meantBy 98 = .ok (.iload_n 2, 1) := by decide +kernel
theorem dX12_meantBy_99 : decode cX12_meantBy 99 = .ok (.if_icmp .ne 82, 3) := by decide +kernel
theorem dX12_meantBy_102 : decode cX12_meantBy 102 = .ok (.aload_n 0, 1) := by decide +kernel
theorem dX12_meantBy_103 : decode cX12_meantBy 103 = .ok (.iload_n 1, 1) := by decide +kernel
theorem dX12_meantBy_104 : decode cX12_meantBy 104 = .ok (.iload 8, 2) := by decide +kernel
theorem dX12_meantBy_106 : decode cX12_meantBy 106 = .ok (.invokevirtual 298, 3) := by decide +kernel
theorem dX12_meantBy_109 : decode cX12_meantBy 109 = .ok (.ifCond .ne 6, 3) := by decide +kernel
theorem dX12_meantBy_112 : decode cX12_meantBy 112 = .ok (.goto 69, 3) := by decide +kernel
theorem dX12_meantBy_115 : decode cX12_meantBy 115 = .ok (.aload_n 0, 1) := by decide +kernel
theorem dX12_meantBy_116 : decode cX12_meantBy 116 = .ok (.getfield 37, 3) := by decide +kernel
theorem dX12_meantBy_119 : decode cX12_meantBy 119 = .ok (.iload 8, 2) := by decide +kernel
theorem dX12_meantBy_121 : decode cX12_meantBy 121 = .ok (.laload, 1) := by decide +kernel
theorem dX12_meantBy_122 : decode cX12_meantBy 122 = .ok (.aload_n 0, 1) := by decide +kernel
theorem dX12_meantBy_123 : decode cX12_meantBy 123 = .ok (.getfield 62, 3) := by decide +kernel
theorem dX12_meantBy_126 : decode cX12_meantBy 126 = .ok (.iload 6, 2) := by decide +kernel
theorem dX12_meantBy_128 : decode cX12_meantBy 128 = .ok (.laload, 1) := by decide +kernel
theorem dX12_meantBy_129 : decode cX12_meantBy 129 = .ok (.ladd, 1) := by decide +kernel
theorem dX12_meantBy_130 : decode cX12_meantBy 130 = .ok (.lstore 9, 2) := by decide +kernel
theorem dX12_meantBy_132 : decode cX12_meantBy 132 = .ok (.aload_n 0, 1) := by decide +kernel
theorem dX12_meantBy_133 : decode cX12_meantBy 133 = .ok (.getfield 37, 3) := by decide +kernel
theorem dX12_meantBy_136 : decode cX12_meantBy 136 = .ok (.iload_n 1, 1) := by decide +kernel
theorem dX12_meantBy_137 : decode cX12_meantBy 137 = .ok (.laload, 1) := by decide +kernel
theorem dX12_meantBy_138 : decode cX12_meantBy 138 = .ok (.aload_n 0, 1) := by decide +kernel
theorem dX12_meantBy_139 : decode cX12_meantBy 139 = .ok (.getfield 62, 3) := by decide +kernel
theorem dX12_meantBy_142 : decode cX12_meantBy 142 = .ok (.iload_n 2, 1) := by decide +kernel
theorem dX12_meantBy_143 : decode cX12_meantBy 143 = .ok (.laload, 1) := by decide +kernel
theorem dX12_meantBy_144 : decode cX12_meantBy 144 = .ok (.ladd, 1) := by decide +kernel
theorem dX12_meantBy_145 : decode cX12_meantBy 145 = .ok (.lload 9, 2) := by decide +kernel
theorem dX12_meantBy_147 : decode cX12_meantBy 147 = .ok (.invokestatic 303, 3) := by decide +kernel
theorem dX12_meantBy_150 : decode cX12_meantBy 150 = .ok (.aload_n 0, 1) := by decide +kernel
theorem dX12_meantBy_151 : decode cX12_meantBy 151 = .ok (.getfield 65, 3) := by decide +kernel
theorem dX12_meantBy_154 : decode cX12_meantBy 154 = .ok (.i2l, 1) := by decide +kernel
theorem dX12_meantBy_155 : decode cX12_meantBy 155 = .ok (.lcmp, 1) := by decide +kernel
theorem dX12_meantBy_156 : decode cX12_meantBy 156 = .ok (.ifCond .gt 25, 3) := by decide +kernel
theorem dX12_meantBy_159 : decode cX12_meantBy 159 = .ok (.iload_n 3, 1) := by decide +kernel
theorem dX12_meantBy_160 : decode cX12_meantBy 160 = .ok (.ifCond .lt 14, 3) := by decide +kernel
theorem dX12_meantBy_163 : decode cX12_meantBy 163 = .ok (.lload 9, 2) := by decide +kernel
theorem dX12_meantBy_165 : decode cX12_meantBy 165 = .ok (.lload 4, 2) := by decide +kernel
theorem dX12_meantBy_167 : decode cX12_meantBy 167 = .ok (.lcmp, 1) := by decide +kernel
theorem dX12_meantBy_168 : decode cX12_meantBy 168 = .ok (.ifCond .lt 6, 3) := by decide +kernel
theorem dX12_meantBy_171 : decode cX12_meantBy 171 = .ok (.goto 10, 3) := by decide +kernel
theorem dX12_meantBy_174 : decode cX12_meantBy 174 = .ok (.iload 6, 2) := by decide +kernel
theorem dX12_meantBy_176 : decode cX12_meantBy 176 = .ok (.istore_n 3, 1) := by decide +kernel
theorem dX12_meantBy_177 : decode cX12_meantBy 177 = .ok (.lload 9, 2) := by decide +kernel
theorem dX12_meantBy_179 : decode cX12_meantBy 179 = .ok (.lstore 4, 2) := by decide +kernel
theorem dX12_meantBy_181 : decode cX12_meantBy 181 = .ok (.iinc 8 1, 3) := by decide +kernel
theorem dX12_meantBy_184 : decode cX12_meantBy 184 = .ok (.goto (-122), 3) := by decide +kernel
theorem dX12_meantBy_187 : decode cX12_meantBy 187 = .ok (.iinc 6 1, 3) := by decide +kernel
theorem dX12_meantBy_190 : decode cX12_meantBy 190 = .ok (.goto (-177), 3) := by decide +kernel
theorem dX12_meantBy_193 : decode cX12_meantBy 193 = .ok (.iload_n 3, 1) := by decide +kernel
theorem dX12_meantBy_194 : decode cX12_meantBy 194 = .ok (.ireturn, 1) := by decide +kernel
theorem dX12_isSameCall_0 : decode cX12_isSameCall 0 = .ok (.aload_n 0, 1) := by decide +kernel
theorem dX12_isSameCall_1 : decode cX12_isSameCall 1 = .ok (.getfield 44, 3) := by decide +kernel
theorem dX12_isSameCall_4 : decode cX12_isSameCall 4 = .ok (.iload_n 1, 1) := by decide +kernel
theorem dX12_isSameCall_5 : decode cX12_isSameCall 5 = .ok (.iaload, 1) := by decide +kernel
theorem dX12_isSameCall_6 : decode cX12_isSameCall 6 = .ok (.aload_n 0, 1) := by decide +kernel
theorem dX12_isSameCall_7 : decode cX12_isSameCall 7 = .ok (.getfield 44, 3) := by decide +kernel
theorem dX12_isSameCall_10 : decode cX12_isSameCall 10 = .ok (.iload_n 2, 1) := by decide +kernel
theorem dX12_isSameCall_11 : decode cX12_isSameCall 11 = .ok (.iaload, 1) := by decide +kernel
theorem dX12_isSameCall_12 : decode cX12_isSameCall 12 = .ok (.if_icmp .ne 7, 3) := by decide +kernel
theorem dX12_isSameCall_15 : decode cX12_isSameCall 15 = .ok (.iconst 1, 1) := by decide +kernel
theorem dX12_isSameCall_16 : decode cX12_isSameCall 16 = .ok (.goto 4, 3) := by decide +kernel
theorem dX12_isSameCall_19 : decode cX12_isSameCall 19 = .ok (.iconst 0, 1) := by decide +kernel
theorem dX12_isSameCall_20 : decode cX12_isSameCall 20 = .ok (.istore_n 3, 1) := by decide +kernel
theorem dX12_isSameCall_21 : decode cX12_isSameCall 21 = .ok (.iconst 0, 1) := by decide +kernel
theorem dX12_isSameCall_22 : decode cX12_isSameCall 22 = .ok (.istore 4, 2) := by decide +kernel
theorem dX12_isSameCall_24 : decode cX12_isSameCall 24 = .ok (.iload 4, 2) := by decide +kernel
theorem dX12_isSameCall_26 : decode cX12_isSameCall 26 = .ok (.aload_n 0, 1) := by decide +kernel
theorem dX12_isSameCall_27 : decode cX12_isSameCall 27 = .ok (.getfield 44, 3) := by decide +kernel
theorem dX12_isSameCall_30 : decode cX12_isSameCall 30 = .ok (.iload_n 1, 1) := by decide +kernel
theorem dX12_isSameCall_31 : decode cX12_isSameCall 31 = .ok (.iaload, 1) := by decide +kernel
theorem dX12_isSameCall_32 : decode cX12_isSameCall 32 = .ok (.if_icmp .ge 46, 3) := by decide +kernel
theorem dX12_isSameCall_35 : decode cX12_isSameCall 35 = .ok (.iload_n 3, 1) := by decide +kernel
theorem dX12_isSameCall_36 : decode cX12_isSameCall 36 = .ok (.ifCond .eq 42, 3) := by decide +kernel
theorem dX12_isSameCall_39 : decode cX12_isSameCall 39 = .ok (.aload_n 0, 1) := by decide +kernel
theorem dX12_isSameCall_40 : decode cX12_isSameCall 40 = .ok (.getfield 47, 3) := by decide +kernel
theorem dX12_isSameCall_43 : decode cX12_isSameCall 43 = .ok (.bipush 6, 2) := by decide +kernel
theorem dX12_isSameCall_45 : decode cX12_isSameCall 45 = .ok (.iload_n 1, 1) := by decide +kernel
theorem dX12_isSameCall_46 : decode cX12_isSameCall 46 = .ok (.imul, 1) := by decide +kernel
theorem dX12_isSameCall_47 : decode cX12_isSameCall 47 = .ok (.iload 4, 2) := by decide +kernel
theorem dX12_isSameCall_49 : decode cX12_isSameCall 49 = .ok (.iadd, 1) := by decide +kernel
theorem dX12_isSameCall_50 : decode cX12_isSameCall 50 = .ok (.iaload, 1) := by decide +kernel
theorem dX12_isSameCall_51 : decode cX12_isSameCall 51 = .ok (.aload_n 0, 1) := by decide +kernel
theorem dX12_isSameCall_52 : decode cX12_isSameCall 52 = .ok (.getfield 47, 3) := by decide +kernel
theorem dX12_isSameCall_55 : decode cX12_isSameCall 55 = .ok (.bipush 6, 2) := by decide +kernel
theorem dX12_isSameCall_57 : decode cX12_isSameCall 57 = .ok (.iload_n 2, 1) := by decide +kernel
theorem dX12_isSameCall_58 : decode cX12_isSameCall 58 = .ok (.imul, 1) := by decide +kernel
theorem dX12_isSameCall_59 : decode cX12_isSameCall 59 = .ok (.iload 4, 2) := by decide +kernel
theorem dX12_isSameCall_61 : decode cX12_isSameCall 61 = .ok (.iadd, 1) := by decide +kernel
theorem dX12_isSameCall_62 : decode cX12_isSameCall 62 = .ok (.iaload, 1) := by decide +kernel
theorem dX12_isSameCall_63 : decode cX12_isSameCall 63 = .ok (.if_icmp .ne 7, 3) := by decide +kernel
theorem dX12_isSameCall_66 : decode cX12_isSameCall 66 = .ok (.iconst 1, 1) := by decide +kernel
theorem dX12_isSameCall_67 : decode cX12_isSameCall 67 = .ok (.goto 4, 3) := by decide +kernel
theorem dX12_isSameCall_70 : decode cX12_isSameCall 70 = .ok (.iconst 0, 1) := by decide +kernel
theorem dX12_isSameCall_71 : decode cX12_isSameCall 71 = .ok (.istore_n 3, 1) := by decide +kernel
theorem dX12_isSameCall_72 : decode cX12_isSameCall 72 = .ok (.iinc 4 1, 3) := by decide +kernel
theorem dX12_isSameCall_75 : decode cX12_isSameCall 75 = .ok (.goto (-51), 3) := by decide +kernel
theorem dX12_isSameCall_78 : decode cX12_isSameCall 78 = .ok (.iload_n 3, 1) := by decide +kernel
theorem dX12_isSameCall_79 : decode cX12_isSameCall 79 = .ok (.ireturn, 1) := by decide +kernel
theorem dX12_standsIn_0 : decode cX12_standsIn 0 = .ok (.iconst 0, 1) := by decide +kernel
theorem dX12_standsIn_1 : decode cX12_standsIn 1 = .ok (.istore_n 2, 1) := by decide +kernel
theorem dX12_standsIn_2 : decode cX12_standsIn 2 = .ok (.iconst 0, 1) := by decide +kernel
theorem dX12_standsIn_3 : decode cX12_standsIn 3 = .ok (.istore_n 3, 1) := by decide +kernel
theorem dX12_standsIn_4 : decode cX12_standsIn 4 = .ok (.iload_n 3, 1) := by decide +kernel
theorem dX12_standsIn_5 : decode cX12_standsIn 5 = .ok (.aload_n 0, 1) := by decide +kernel
theorem dX12_standsIn_6 : decode cX12_standsIn 6 = .ok (.getfield 130, 3) := by decide +kernel
theorem dX12_standsIn_9 : decode cX12_standsIn 9 = .ok (.if_icmp .ge 80, 3) := by decide +kernel
theorem dX12_standsIn_12 : decode cX12_standsIn 12 = .ok (.iconst 0, 1) := by decide +kernel
theorem dX12_standsIn_13 : decode cX12_standsIn 13 = .ok (.istore 4, 2) := by decide +kernel
theorem dX12_standsIn_15 : decode cX12_standsIn 15 = .ok (.bipush 48, 2) := by decide +kernel
theorem dX12_standsIn_17 : decode cX12_standsIn 17 = .ok (.iload_n 3, 1) := by decide +kernel
theorem dX12_standsIn_18 : decode cX12_standsIn 18 = .ok (.imul, 1) := by decide +kernel
theorem dX12_standsIn_19 : decode cX12_standsIn 19 = .ok (.istore 5, 2) := by decide +kernel
theorem dX12_standsIn_21 : decode cX12_standsIn 21 = .ok (.iload 5, 2) := by decide +kernel
theorem dX12_standsIn_23 : decode cX12_standsIn 23 = .ok (.bipush 48, 2) := by decide +kernel
theorem dX12_standsIn_25 : decode cX12_standsIn 25 = .ok (.iload_n 3, 1) := by decide +kernel
theorem dX12_standsIn_26 : decode cX12_standsIn 26 = .ok (.imul, 1) := by decide +kernel
theorem dX12_standsIn_27 : decode cX12_standsIn 27 = .ok (.bipush 48, 2) := by decide +kernel
theorem dX12_standsIn_29 : decode cX12_standsIn 29 = .ok (.iadd, 1) := by decide +kernel
theorem dX12_standsIn_30 : decode cX12_standsIn 30 = .ok (.if_icmp .ge 40, 3) := by decide +kernel
theorem dX12_standsIn_33 : decode cX12_standsIn 33 = .ok (.iload 4, 2) := by decide +kernel
theorem dX12_standsIn_35 : decode cX12_standsIn 35 = .ok (.ifCond .ne 22, 3) := by decide +kernel
theorem dX12_standsIn_38 : decode cX12_standsIn 38 = .ok (.aload_n 0, 1) := by decide +kernel
theorem dX12_standsIn_39 : decode cX12_standsIn 39 = .ok (.iload 5, 2) := by decide +kernel
theorem dX12_standsIn_41 : decode cX12_standsIn 41 = .ok (.invokevirtual 307, 3) := by decide +kernel
theorem dX12_standsIn_44 : decode cX12_standsIn 44 = .ok (.ifCond .eq 17, 3) := by decide +kernel
theorem dX12_standsIn_47 : decode cX12_standsIn 47 = .ok (.aload_n 0, 1) := by decide +kernel
theorem dX12_standsIn_48 : decode cX12_standsIn 48 = .ok (.iload_n 1, 1) := by decide +kernel
theorem dX12_standsIn_49 : decode cX12_standsIn 49 = .ok (.iload 5, 2) := by decide +kernel
theorem dX12_standsIn_51 : decode cX12_standsIn 51 = .ok (.invokevirtual 364, 3) := by decide +kernel
theorem dX12_standsIn_54 : decode cX12_standsIn 54 = .ok (.ifCond .eq 7, 3) := by decide +kernel
theorem dX12_standsIn_57 : decode cX12_standsIn 57 = .ok (.iconst 1, 1) := by decide +kernel
theorem dX12_standsIn_58 : decode cX12_standsIn 58 = .ok (.goto 4, 3) := by decide +kernel
theorem dX12_standsIn_61 : decode cX12_standsIn 61 = .ok (.iconst 0, 1) := by decide +kernel
theorem dX12_standsIn_62 : decode cX12_standsIn 62 = .ok (.istore 4, 2) := by decide +kernel
theorem dX12_standsIn_64 : decode cX12_standsIn 64 = .ok (.iinc 5 1, 3) := by decide +kernel
theorem dX12_standsIn_67 : decode cX12_standsIn 67 = .ok (.goto (-46), 3) := by decide +kernel
theorem dX12_standsIn_70 : decode cX12_standsIn 70 = .ok (.iload_n 2, 1) := by decide +kernel
theorem dX12_standsIn_71 : decode cX12_standsIn 71 = .ok (.iload 4, 2) := by decide +kernel
theorem dX12_standsIn_73 : decode cX12_standsIn 73 = .ok (.ifCond .eq 7, 3) := by decide +kernel
theorem dX12_standsIn_76 : decode cX12_standsIn 76 = .ok (.iconst 1, 1) := by decide +kernel
theorem dX12_standsIn_77 : decode cX12_standsIn 77 = .ok (.goto 4, 3) := by decide +kernel
theorem dX12_standsIn_80 : decode cX12_standsIn 80 = .ok (.iconst 0, 1) := by decide +kernel
theorem dX12_standsIn_81 : decode cX12_standsIn 81 = .ok (.iadd, 1) := by decide +kernel
theorem dX12_standsIn_82 : decode cX12_standsIn 82 = .ok (.istore_n 2, 1) := by decide +kernel
theorem dX12_standsIn_83 : decode cX12_standsIn 83 = .ok (.iinc 3 1, 3) := by decide +kernel
theorem dX12_standsIn_86 : decode cX12_standsIn 86 = .ok (.goto (-82), 3) := by decide +kernel
theorem dX12_standsIn_89 : decode cX12_standsIn 89 = .ok (.iload_n 2, 1) := by decide +kernel
theorem dX12_standsIn_90 : decode cX12_standsIn 90 = .ok (.ireturn, 1) := by decide +kernel
theorem dX12_whyOf_0 : decode cX12_whyOf 0 = .ok (.aload_n 0, 1) := by decide +kernel
theorem dX12_whyOf_1 : decode cX12_whyOf 1 = .ok (.getfield 59, 3) := by decide +kernel
theorem dX12_whyOf_4 : decode cX12_whyOf 4 = .ok (.iload_n 1, 1) := by decide +kernel
theorem dX12_whyOf_5 : decode cX12_whyOf 5 = .ok (.iaload, 1) := by decide +kernel
theorem dX12_whyOf_6 : decode cX12_whyOf 6 = .ok (.ifCond .lt 17, 3) := by decide +kernel
theorem dX12_whyOf_9 : decode cX12_whyOf 9 = .ok (.aload_n 0, 1) := by decide +kernel
theorem dX12_whyOf_10 : decode cX12_whyOf 10 = .ok (.iload_n 1, 1) := by decide +kernel
theorem dX12_whyOf_11 : decode cX12_whyOf 11 = .ok (.invokevirtual 367, 3) := by decide +kernel
theorem dX12_whyOf_14 : decode cX12_whyOf 14 = .ok (.ifCond .eq 7, 3) := by decide +kernel
theorem dX12_whyOf_17 : decode cX12_whyOf 17 = .ok (.iconst 1, 1) := by decide +kernel
theorem dX12_whyOf_18 : decode cX12_whyOf 18 = .ok (.goto 4, 3) := by decide +kernel
theorem dX12_whyOf_21 : decode cX12_whyOf 21 = .ok (.iconst 0, 1) := by decide +kernel
theorem dX12_whyOf_22 : decode cX12_whyOf 22 = .ok (.ireturn, 1) := by decide +kernel
theorem dX12_whyOf_23 : decode cX12_whyOf 23 = .ok (.aload_n 0, 1) := by decide +kernel
theorem dX12_whyOf_24 : decode cX12_whyOf 24 = .ok (.iload_n 1, 1) := by decide +kernel
theorem dX12_whyOf_25 : decode cX12_whyOf 25 = .ok (.invokevirtual 295, 3) := by decide +kernel
theorem dX12_whyOf_28 : decode cX12_whyOf 28 = .ok (.ifCond .ne 5, 3) := by decide +kernel
theorem dX12_whyOf_31 : decode cX12_whyOf 31 = .ok (.iconst 2, 1) := by decide +kernel
theorem dX12_whyOf_32 : decode cX12_whyOf 32 = .ok (.ireturn, 1) := by decide +kernel
theorem dX12_whyOf_33 : decode cX12_whyOf 33 = .ok (.aload_n 0, 1) := by decide +kernel
theorem dX12_whyOf_34 : decode cX12_whyOf 34 = .ok (.getfield 56, 3) := by decide +kernel
theorem dX12_whyOf_37 : decode cX12_whyOf 37 = .ok (.iload_n 1, 1) := by decide +kernel
theorem dX12_whyOf_38 : decode cX12_whyOf 38 = .ok (.iaload, 1) := by decide +kernel
theorem dX12_whyOf_39 : decode cX12_whyOf 39 = .ok (.ifCond .ge 31, 3) := by decide +kernel
theorem dX12_whyOf_42 : decode cX12_whyOf 42 = .ok (.aload_n 0, 1) := by decide +kernel
theorem dX12_whyOf_43 : decode cX12_whyOf 43 = .ok (.iload_n 1, 1) := by decide +kernel
theorem dX12_whyOf_44 : decode cX12_whyOf 44 = .ok (.invokevirtual 370, 3) := by decide +kernel
theorem dX12_whyOf_47 : decode cX12_whyOf 47 = .ok (.ifCond .lt 7, 3) := by decide +kernel
theorem dX12_whyOf_50 : decode cX12_whyOf 50 = .ok (.iconst 3, 1) := by decide +kernel
theorem dX12_whyOf_51 : decode cX12_whyOf 51 = .ok (.goto 18, 3) := by decide +kernel
theorem dX12_whyOf_54 : decode cX12_whyOf 54 = .ok (.aload_n 0, 1) := by decide +kernel
theorem dX12_whyOf_55 : decode cX12_whyOf 55 = .ok (.iload_n 1, 1) := by decide +kernel
theorem dX12_whyOf_56 : decode cX12_whyOf 56 = .ok (.invokevirtual 374, 3) := by decide +kernel
theorem dX12_whyOf_59 : decode cX12_whyOf 59 = .ok (.iconst 3, 1) := by decide +kernel
theorem dX12_whyOf_60 : decode cX12_whyOf 60 = .ok (.if_icmp .ge 7, 3) := by decide +kernel
theorem dX12_whyOf_63 : decode cX12_whyOf 63 = .ok (.iconst 4, 1) := by decide +kernel
theorem dX12_whyOf_64 : decode cX12_whyOf 64 = .ok (.goto 5, 3) := by decide +kernel
theorem dX12_whyOf_67 : decode cX12_whyOf 67 = .ok (.bipush 6, 2) := by decide +kernel
theorem dX12_whyOf_69 : decode cX12_whyOf 69 = .ok (.ireturn, 1) := by decide +kernel
theorem dX12_whyOf_70 : decode cX12_whyOf 70 = .ok (.aload_n 0, 1) := by decide +kernel
theorem dX12_whyOf_71 : decode cX12_whyOf 71 = .ok (.getfield 56, 3) := by decide +kernel
theorem dX12_whyOf_74 : decode cX12_whyOf 74 = .ok (.iload_n 1, 1) := by decide +kernel
theorem dX12_whyOf_75 : decode cX12_whyOf 75 = .ok (.iaload, 1) := by decide +kernel
theorem dX12_whyOf_76 : decode cX12_whyOf 76 = .ok (.iload_n 1, 1) := by decide +kernel
theorem dX12_whyOf_77 : decode cX12_whyOf 77 = .ok (.bipush 48, 2) := by decide +kernel
theorem dX12_whyOf_79 : decode cX12_whyOf 79 = .ok (.idiv, 1) := by decide +kernel
theorem dX12_whyOf_80 : decode cX12_whyOf 80 = .ok (.if_icmp .eq 20, 3) := by decide +kernel
theorem dX12_whyOf_83 : decode cX12_whyOf 83 = .ok (.aload_n 0, 1) := by decide +kernel
theorem dX12_whyOf_84 : decode cX12_whyOf 84 = .ok (.aload_n 0, 1) := by decide +kernel
theorem dX12_whyOf_85 : decode cX12_whyOf 85 = .ok (.getfield 56, 3) := by decide +kernel
theorem dX12_whyOf_88 : decode cX12_whyOf 88 = .ok (.iload_n 1, 1) := by decide +kernel
theorem dX12_whyOf_89 : decode cX12_whyOf 89 = .ok (.iaload, 1) := by decide +kernel
theorem dX12_whyOf_90 : decode cX12_whyOf 90 = .ok (.invokevirtual 314, 3) := by decide +kernel
theorem dX12_whyOf_93 : decode cX12_whyOf 93 = .ok (.ifCond .eq 7, 3) := by decide +kernel
theorem dX12_whyOf_96 : decode cX12_whyOf 96 = .ok (.iconst 5, 1) := by decide +kernel
theorem dX12_whyOf_97 : decode cX12_whyOf 97 = .ok (.goto 5, 3) := by decide +kernel
theorem dX12_whyOf_100 : decode cX12_whyOf 100 = .ok (.bipush 6, 2) := by decide +kernel
theorem dX12_whyOf_102 : decode cX12_whyOf 102 = .ok (.ireturn, 1) := by decide +kernel
theorem dX12_checkedSum_0 : decode cX12_checkedSum 0 = .ok (.iconst 0, 1) := by decide +kernel
theorem dX12_checkedSum_1 : decode cX12_checkedSum 1 = .ok (.istore_n 3, 1) := by decide +kernel
theorem dX12_checkedSum_2 : decode cX12_checkedSum 2 = .ok (.iload_n 3, 1) := by decide +kernel
theorem dX12_checkedSum_3 : decode cX12_checkedSum 3 = .ok (.bipush 120, 2) := by decide +kernel
theorem dX12_checkedSum_5 : decode cX12_checkedSum 5 = .ok (.if_icmp .ge 16, 3) := by decide +kernel
theorem dX12_checkedSum_8 : decode cX12_checkedSum 8 = .ok (.aload_n 0, 1) := by decide +kernel
theorem dX12_checkedSum_9 : decode cX12_checkedSum 9 = .ok (.getfield 127, 3) := by decide +kernel
theorem dX12_checkedSum_12 : decode cX12_checkedSum 12 = .ok (.iload_n 3, 1) := by decide +kernel
theorem dX12_checkedSum_13 : decode cX12_checkedSum 13 = .ok (.iconst 0, 1) := by decide +kernel
theorem dX12_checkedSum_14 : decode cX12_checkedSum 14 = .ok (.bastore, 1) := by decide +kernel
theorem dX12_checkedSum_15 : decode cX12_checkedSum 15 = .ok (.iinc 3 1, 3) := by decide +kernel
theorem dX12_checkedSum_18 : decode cX12_checkedSum 18 = .ok (.goto (-16), 3) := by decide +kernel
theorem dX12_checkedSum_21 : decode cX12_checkedSum 21 = .ok (.iconst 0, 1) := by decide +kernel
theorem dX12_checkedSum_22 : decode cX12_checkedSum 22 = .ok (.istore_n 3, 1) := by decide +kernel
theorem dX12_checkedSum_23 : decode cX12_checkedSum 23 = .ok (.iconst 0, 1) := by decide +kernel
theorem dX12_checkedSum_24 : decode cX12_checkedSum 24 = .ok (.istore 4, 2) := by decide +kernel
theorem dX12_checkedSum_26 : decode cX12_checkedSum 26 = .ok (.iconst 0, 1) := by decide +kernel
theorem dX12_checkedSum_27 : decode cX12_checkedSum 27 = .ok (.istore 5, 2) := by decide +kernel
theorem dX12_checkedSum_29 : decode cX12_checkedSum 29 = .ok (.bipush 48, 2) := by decide +kernel
theorem dX12_checkedSum_31 : decode cX12_checkedSum 31 = .ok (.iload_n 1, 1) := by decide +kernel
theorem dX12_checkedSum_32 : decode cX12_checkedSum 32 = .ok (.imul, 1) := by decide +kernel
theorem dX12_checkedSum_33 : decode cX12_checkedSum 33 = .ok (.istore 6, 2) := by decide +kernel
theorem dX12_checkedSum_35 : decode cX12_checkedSum 35 = .ok (.iload 6, 2) := by decide +kernel
theorem dX12_checkedSum_37 : decode cX12_checkedSum 37 = .ok (.bipush 48, 2) := by decide +kernel
theorem dX12_checkedSum_39 : decode cX12_checkedSum 39 = .ok (.iload_n 1, 1) := by decide +kernel
theorem dX12_checkedSum_40 : decode cX12_checkedSum 40 = .ok (.imul, 1) := by decide +kernel
theorem dX12_checkedSum_41 : decode cX12_checkedSum 41 = .ok (.bipush 48, 2) := by decide +kernel
theorem dX12_checkedSum_43 : decode cX12_checkedSum 43 = .ok (.iadd, 1) := by decide +kernel
theorem dX12_checkedSum_44 : decode cX12_checkedSum 44 = .ok (.if_icmp .ge 118, 3) := by decide +kernel
theorem dX12_checkedSum_47 : decode cX12_checkedSum 47 = .ok (.aload_n 0, 1) := by decide +kernel
theorem dX12_checkedSum_48 : decode cX12_checkedSum 48 = .ok (.iload 6, 2) := by decide +kernel
theorem dX12_checkedSum_50 : decode cX12_checkedSum 50 = .ok (.invokevirtual 307, 3) := by decide +kernel
theorem dX12_checkedSum_53 : decode cX12_checkedSum 53 = .ok (.ifCond .eq 12, 3) := by decide +kernel
theorem dX12_checkedSum_56 : decode cX12_checkedSum 56 = .ok (.aload_n 0, 1) := by decide +kernel
theorem dX12_checkedSum_57 : decode cX12_checkedSum 57 = .ok (.iload 6, 2) := by decide +kernel
theorem dX12_checkedSum_59 : decode cX12_checkedSum 59 = .ok (.invokevirtual 377, 3) := by decide +kernel
theorem dX12_checkedSum_62 : decode cX12_checkedSum 62 = .ok (.goto 4, 3) := by decide +kernel
theorem dX12_checkedSum_65 : decode cX12_checkedSum 65 = .ok (.iconst (-1), 1) := by decide +kernel
theorem dX12_checkedSum_66 : decode cX12_checkedSum 66 = .ok (.istore 7, 2) := by decide +kernel
theorem dX12_checkedSum_68 : decode cX12_checkedSum 68 = .ok (.iload 5, 2) := by decide +kernel
theorem dX12_checkedSum_70 : decode cX12_checkedSum 70 = .ok (.iload 7, 2) := by decide +kernel
theorem dX12_checkedSum_72 : decode cX12_checkedSum 72 = .ok (.iconst 3, 1) := by decide +kernel
theorem dX12_checkedSum_73 : decode cX12_checkedSum 73 = .ok (.if_icmp .ne 7, 3) := by decide +kernel
theorem dX12_checkedSum_76 : decode cX12_checkedSum 76 = .ok (.iconst 1, 1) := by decide +kernel
theorem dX12_checkedSum_77 : decode cX12_checkedSum 77 = .ok (.goto 4, 3) := by decide +kernel
theorem dX12_checkedSum_80 : decode cX12_checkedSum 80 = .ok (.iconst 0, 1) := by decide +kernel
theorem dX12_checkedSum_81 : decode cX12_checkedSum 81 = .ok (.iadd, 1) := by decide +kernel
theorem dX12_checkedSum_82 : decode cX12_checkedSum 82 = .ok (.istore 5, 2) := by decide +kernel
theorem dX12_checkedSum_84 : decode cX12_checkedSum 84 = .ok (.iload 7, 2) := by decide +kernel
theorem dX12_checkedSum_86 : decode cX12_checkedSum 86 = .ok (.ifCond .eq 6, 3) := by decide +kernel
theorem dX12_checkedSum_89 : decode cX12_checkedSum 89 = .ok (.goto 67, 3) := by decide +kernel
theorem dX12_checkedSum_92 : decode cX12_checkedSum 92 = .ok (.iload_n 3, 1) := by decide +kernel
theorem dX12_checkedSum_93 : decode cX12_checkedSum 93 = .ok (.iload_n 2, 1) := by decide +kernel
theorem dX12_checkedSum_94 : decode cX12_checkedSum 94 = .ok (.aload_n 0, 1) := by decide +kernel
theorem dX12_checkedSum_95 : decode cX12_checkedSum 95 = .ok (.iload 6, 2) := by decide +kernel
theorem dX12_checkedSum_97 : decode cX12_checkedSum 97 = .ok (.invokevirtual 380, 3) := by decide +kernel
theorem dX12_checkedSum_100 : decode cX12_checkedSum 100 = .ok (.imul, 1) := by decide +kernel
theorem dX12_checkedSum_101 : decode cX12_checkedSum 101 = .ok (.iadd, 1) := by decide +kernel
theorem dX12_checkedSum_102 : decode cX12_checkedSum 102 = .ok (.istore_n 3, 1) := by decide +kernel
theorem dX12_checkedSum_103 : decode cX12_checkedSum 103 = .ok (.iload 6, 2) := by decide +kernel
theorem dX12_checkedSum_105 : decode cX12_checkedSum 105 = .ok (.bipush 16, 2) := by decide +kernel
theorem dX12_checkedSum_107 : decode cX12_checkedSum 107 = .ok (.idiv, 1) := by decide +kernel
theorem dX12_checkedSum_108 : decode cX12_checkedSum 108 = .ok (.iconst 3, 1) := by decide +kernel
theorem dX12_checkedSum_109 : decode cX12_checkedSum 109 = .ok (.irem, 1) := by decide +kernel
theorem dX12_checkedSum_110 : decode cX12_checkedSum 110 = .ok (.bipush 40, 2) := by decide +kernel
theorem dX12_checkedSum_112 : decode cX12_checkedSum 112 = .ok (.imul, 1) := by decide +kernel
theorem dX12_checkedSum_113 : decode cX12_checkedSum 113 = .ok (.aload_n 0, 1) := by decide +kernel
theorem dX12_checkedSum_114 : decode cX12_checkedSum 114 = .ok (.getfield 13, 3) := by decide +kernel
theorem dX12_checkedSum_117 : decode cX12_checkedSum 117 = .ok (.aload_n 0, 1) := by decide +kernel
theorem dX12_checkedSum_118 : decode cX12_checkedSum 118 = .ok (.getfield 56, 3) := by decide +kernel
theorem dX12_checkedSum_121 : decode cX12_checkedSum 121 = .ok (.iload 6, 2) := by decide +kernel
theorem dX12_checkedSum_123 : decode cX12_checkedSum 123 = .ok (.iaload, 1) := by decide +kernel
theorem dX12_checkedSum_124 : decode cX12_checkedSum 124 = .ok (.iaload, 1) := by decide +kernel
theorem dX12_checkedSum_125 : decode cX12_checkedSum 125 = .ok (.iadd, 1) := by decide +kernel
theorem dX12_checkedSum_126 : decode cX12_checkedSum 126 = .ok (.istore 8, 2) := by decide +kernel
theorem dX12_checkedSum_128 : decode cX12_checkedSum 128 = .ok (.iload 4, 2) := by decide +kernel
theorem dX12_checkedSum_130 : decode cX12_checkedSum 130 = .ok (.aload_n 0, 1) := by decide +kernel
theorem dX12_checkedSum_131 : decode cX12_checkedSum 131 = .ok (.getfield 127, 3) := by decide +kernel
theorem dX12_checkedSum_134 : decode cX12_checkedSum 134 = .ok (.iload 8, 2) := by decide +kernel
theorem dX12_checkedSum_136 : decode cX12_checkedSum 136 = .ok (.baload, 1) := by decide +kernel
theorem dX12_checkedSum_137 : decode cX12_checkedSum 137 = .ok (.ifCond .eq 7, 3) := by decide +kernel
theorem dX12_checkedSum_140 : decode cX12_checkedSum 140 = .ok (.iconst 0, 1) := by decide +kernel
theorem dX12_checkedSum_141 : decode cX12_checkedSum 141 = .ok (.goto 4, 3) := by decide +kernel
theorem dX12_checkedSum_144 : decode cX12_checkedSum 144 = .ok (.iconst 1, 1) := by decide +kernel
theorem dX12_checkedSum_145 : decode cX12_checkedSum 145 = .ok (.iadd, 1) := by decide +kernel
theorem dX12_checkedSum_146 : decode cX12_checkedSum 146 = .ok (.istore 4, 2) := by decide +kernel
theorem dX12_checkedSum_148 : decode cX12_checkedSum 148 = .ok (.aload_n 0, 1) := by decide +kernel
theorem dX12_checkedSum_149 : decode cX12_checkedSum 149 = .ok (.getfield 127, 3) := by decide +kernel
theorem dX12_checkedSum_152 : decode cX12_checkedSum 152 = .ok (.iload 8, 2) := by decide +kernel
theorem dX12_checkedSum_154 : decode cX12_checkedSum 154 = .ok (.iconst 1, 1) := by decide +kernel
theorem dX12_checkedSum_155 : decode cX12_checkedSum 155 = .ok (.bastore, 1) := by decide +kernel
theorem dX12_checkedSum_156 : decode cX12_checkedSum 156 = .ok (.iinc 6 1, 3) := by decide +kernel
theorem dX12_checkedSum_159 : decode cX12_checkedSum 159 = .ok (.goto (-124), 3) := by decide +kernel
theorem dX12_checkedSum_162 : decode cX12_checkedSum 162 = .ok (.iload_n 3, 1) := by decide +kernel
theorem dX12_checkedSum_163 : decode cX12_checkedSum 163 = .ok (.iload 4, 2) := by decide +kernel
theorem dX12_checkedSum_165 : decode cX12_checkedSum 165 = .ok (.imul, 1) := by decide +kernel
theorem dX12_checkedSum_166 : decode cX12_checkedSum 166 = .ok (.aload_n 0, 1) := by decide +kernel
theorem dX12_checkedSum_167 : decode cX12_checkedSum 167 = .ok (.getfield 292, 3) := by decide +kernel
theorem dX12_checkedSum_170 : decode cX12_checkedSum 170 = .ok (.iload 5, 2) := by decide +kernel
theorem dX12_checkedSum_172 : decode cX12_checkedSum 172 = .ok (.imul, 1) := by decide +kernel
theorem dX12_checkedSum_173 : decode cX12_checkedSum 173 = .ok (.isub, 1) := by decide +kernel
theorem dX12_checkedSum_174 : decode cX12_checkedSum 174 = .ok (.ireturn, 1) := by decide +kernel
theorem dX12_own_0 : decode cX12_own 0 = .ok (.aload_n 0, 1) := by decide +kernel
theorem dX12_own_1 : decode cX12_own 1 = .ok (.getfield 7, 3) := by decide +kernel
theorem dX12_own_4 : decode cX12_own 4 = .ok (.iload_n 1, 1) := by decide +kernel
theorem dX12_own_5 : decode cX12_own 5 = .ok (.iaload, 1) := by decide +kernel
theorem dX12_own_6 : decode cX12_own 6 = .ok (.tableswitch 58 0 2 #[26, 33, 44], 26) := by decide +kernel
theorem dX12_own_32 : decode cX12_own 32 = .ok (.aload_n 0, 1) := by decide +kernel
theorem dX12_own_33 : decode cX12_own 33 = .ok (.iload_n 1, 1) := by decide +kernel
theorem dX12_own_34 : decode cX12_own 34 = .ok (.iconst 1, 1) := by decide +kernel
theorem dX12_own_35 : decode cX12_own 35 = .ok (.invokevirtual 383, 3) := by decide +kernel
theorem dX12_own_38 : decode cX12_own 38 = .ok (.ireturn, 1) := by decide +kernel
theorem dX12_own_39 : decode cX12_own 39 = .ok (.aload_n 0, 1) := by decide +kernel
theorem dX12_own_40 : decode cX12_own 40 = .ok (.iload_n 1, 1) := by decide +kernel
theorem dX12_own_41 : decode cX12_own 41 = .ok (.iconst 1, 1) := by decide +kernel
theorem dX12_own_42 : decode cX12_own 42 = .ok (.invokevirtual 383, 3) := by decide +kernel
theorem dX12_own_45 : decode cX12_own 45 = .ok (.iconst 2, 1) := by decide +kernel
theorem dX12_own_46 : decode cX12_own 46 = .ok (.imul, 1) := by decide +kernel
theorem dX12_own_47 : decode cX12_own 47 = .ok (.iconst 3, 1) := by decide +kernel
theorem dX12_own_48 : decode cX12_own 48 = .ok (.idiv, 1) := by decide +kernel
theorem dX12_own_49 : decode cX12_own 49 = .ok (.ireturn, 1) := by decide +kernel
theorem dX12_own_50 : decode cX12_own 50 = .ok (.aload_n 0, 1) := by decide +kernel
theorem dX12_own_51 : decode cX12_own 51 = .ok (.iload_n 1, 1) := by decide +kernel
theorem dX12_own_52 : decode cX12_own 52 = .ok (.iconst 2, 1) := by decide +kernel
theorem dX12_own_53 : decode cX12_own 53 = .ok (.invokevirtual 383, 3) := by decide +kernel
theorem dX12_own_56 : decode cX12_own 56 = .ok (.iconst 2, 1) := by decide +kernel
theorem dX12_own_57 : decode cX12_own 57 = .ok (.imul, 1) := by decide +kernel
theorem dX12_own_58 : decode cX12_own 58 = .ok (.iconst 3, 1) := by decide +kernel
theorem dX12_own_59 : decode cX12_own 59 = .ok (.idiv, 1) := by decide +kernel
theorem dX12_own_60 : decode cX12_own 60 = .ok (.bipush 50, 2) := by decide +kernel
theorem dX12_own_62 : decode cX12_own 62 = .ok (.iadd, 1) := by decide +kernel
theorem dX12_own_63 : decode cX12_own 63 = .ok (.ireturn, 1) := by decide +kernel
theorem dX12_own_64 : decode cX12_own 64 = .ok (.aload_n 0, 1) := by decide +kernel
theorem dX12_own_65 : decode cX12_own 65 = .ok (.iload_n 1, 1) := by decide +kernel
theorem dX12_own_66 : decode cX12_own 66 = .ok (.iconst 1, 1) := by decide +kernel
theorem dX12_own_67 : decode cX12_own 67 = .ok (.invokevirtual 383, 3) := by decide +kernel
theorem dX12_own_70 : decode cX12_own 70 = .ok (.istore_n 2, 1) := by decide +kernel
theorem dX12_own_71 : decode cX12_own 71 = .ok (.iconst 0, 1) := by decide +kernel
theorem dX12_own_72 : decode cX12_own 72 = .ok (.ireturn, 1) := by decide +kernel
theorem dX12_totalOf_0 : decode cX12_totalOf 0 = .ok (.aload_n 0, 1) := by decide +kernel
theorem dX12_totalOf_1 : decode cX12_totalOf 1 = .ok (.iconst 0, 1) := by decide +kernel
theorem dX12_totalOf_2 : decode cX12_totalOf 2 = .ok (.putfield 285, 3) := by decide +kernel
theorem dX12_totalOf_5 : decode cX12_totalOf 5 = .ok (.aload_n 0, 1) := by decide +kernel
theorem dX12_totalOf_6 : decode cX12_totalOf 6 = .ok (.getfield 7, 3) := by decide +kernel
theorem dX12_totalOf_9 : decode cX12_totalOf 9 = .ok (.iload_n 1, 1) := by decide +kernel
theorem dX12_totalOf_10 : decode cX12_totalOf 10 = .ok (.iaload, 1) := by decide +kernel
theorem dX12_totalOf_11 : decode cX12_totalOf 11 = .ok (.iconst 4, 1) := by decide +kernel
theorem dX12_totalOf_12 : decode cX12_totalOf 12 = .ok (.if_icmp .eq 9, 3) := by decide +kernel
theorem dX12_totalOf_15 : decode cX12_totalOf 15 = .ok (.aload_n 0, 1) := by decide +kernel
theorem dX12_totalOf_16 : decode cX12_totalOf 16 = .ok (.iload_n 1, 1) := by decide +kernel
theorem dX12_totalOf_17 : decode cX12_totalOf 17 = .ok (.invokevirtual 387, 3) := by decide +kernel
theorem dX12_totalOf_20 : decode cX12_totalOf 20 = .ok (.ireturn, 1) := by decide +kernel
theorem dX12_totalOf_21 : decode cX12_totalOf 21 = .ok (.iconst 0, 1) := by decide +kernel
theorem dX12_totalOf_22 : decode cX12_totalOf 22 = .ok (.istore_n 2, 1) := by decide +kernel
theorem dX12_totalOf_23 : decode cX12_totalOf 23 = .ok (.iconst 0, 1) := by decide +kernel
theorem dX12_totalOf_24 : decode cX12_totalOf 24 = .ok (.istore_n 3, 1) := by decide +kernel
theorem dX12_totalOf_25 : decode cX12_totalOf 25 = .ok (.iload_n 3, 1) := by decide +kernel
theorem dX12_totalOf_26 : decode cX12_totalOf 26 = .ok (.aload_n 0, 1) := by decide +kernel
theorem dX12_totalOf_27 : decode cX12_totalOf 27 = .ok (.getfield 130, 3) := by decide +kernel
theorem dX12_totalOf_30 : decode cX12_totalOf 30 = .ok (.if_icmp .ge 33, 3) := by decide +kernel
theorem dX12_totalOf_33 : decode cX12_totalOf 33 = .ok (.iload_n 2, 1) := by decide +kernel
theorem dX12_totalOf_34 : decode cX12_totalOf 34 = .ok (.aload_n 0, 1) := by decide +kernel
theorem dX12_totalOf_35 : decode cX12_totalOf 35 = .ok (.getfield 28, 3) := by decide +kernel
theorem dX12_totalOf_38 : decode cX12_totalOf 38 = .ok (.iload_n 3, 1) := by decide +kernel
theorem dX12_totalOf_39 : decode cX12_totalOf 39 = .ok (.iaload, 1) := by decide +kernel
theorem dX12_totalOf_40 : decode cX12_totalOf 40 = .ok (.iload_n 1, 1) := by decide +kernel
theorem dX12_totalOf_41 : decode cX12_totalOf 41 = .ok (.iconst 1, 1) := by decide +kernel
theorem dX12_totalOf_42 : decode cX12_totalOf 42 = .ok (.iadd, 1) := by decide +kernel
theorem dX12_totalOf_43 : decode cX12_totalOf 43 = .ok (.if_icmp .ne 11, 3) := by decide +kernel
theorem dX12_totalOf_46 : decode cX12_totalOf 46 = .ok (.aload_n 0, 1) := by decide +kernel
theorem dX12_totalOf_47 : decode cX12_totalOf 47 = .ok (.iload_n 3, 1) := by decide +kernel
theorem dX12_totalOf_48 : decode cX12_totalOf 48 = .ok (.invokevirtual 387, 3) := by decide +kernel
theorem dX12_totalOf_51 : decode cX12_totalOf 51 = .ok (.goto 4, 3) := by decide +kernel
theorem dX12_totalOf_54 : decode cX12_totalOf 54 = .ok (.iconst 0, 1) := by decide +kernel
theorem dX12_totalOf_55 : decode cX12_totalOf 55 = .ok (.iadd, 1) := by decide +kernel
theorem dX12_totalOf_56 : decode cX12_totalOf 56 = .ok (.istore_n 2, 1) := by decide +kernel
theorem dX12_totalOf_57 : decode cX12_totalOf 57 = .ok (.iinc 3 1, 3) := by decide +kernel
theorem dX12_totalOf_60 : decode cX12_totalOf 60 = .ok (.goto (-35), 3) := by decide +kernel
theorem dX12_totalOf_63 : decode cX12_totalOf 63 = .ok (.iload_n 2, 1) := by decide +kernel
theorem dX12_totalOf_64 : decode cX12_totalOf 64 = .ok (.ireturn, 1) := by decide +kernel
theorem dX12_totalOrNone_0 : decode cX12_totalOrNone 0 = .ok (.aload_n 0, 1) := by decide +kernel
theorem dX12_totalOrNone_1 : decode cX12_totalOrNone 1 = .ok (.iload_n 1, 1) := by decide +kernel
theorem dX12_totalOrNone_2 : decode cX12_totalOrNone 2 = .ok (.invokevirtual 390, 3) := by decide +kernel
theorem dX12_totalOrNone_5 : decode cX12_totalOrNone 5 = .ok (.istore_n 2, 1) := by decide +kernel
theorem dX12_totalOrNone_6 : decode cX12_totalOrNone 6 = .ok (.aload_n 0, 1) := by decide +kernel
theorem dX12_totalOrNone_7 : decode cX12_totalOrNone 7 = .ok (.getfield 285, 3) := by decide +kernel
theorem dX12_totalOrNone_10 : decode cX12_totalOrNone 10 = .ok (.ifCond .eq 7, 3) := by decide +kernel
theorem dX12_totalOrNone_13 : decode cX12_totalOrNone 13 = .ok (.iconst 0, 1) := by decide +kernel
theorem dX12_totalOrNone_14 : decode cX12_totalOrNone 14 = .ok (.goto 4, 3) := by decide +kernel
theorem dX12_totalOrNone_17 : decode cX12_totalOrNone 17 = .ok (.iload_n 2, 1) := by decide +kernel
theorem dX12_totalOrNone_18 : decode cX12_totalOrNone 18 = .ok (.ireturn, 1) := by decide +kernel
theorem dX12_begin_0 : decode cX12_begin 0 = .ok (.aload_n 0, 1) := by decide +kernel
theorem dX12_begin_1 : decode cX12_begin 1 = .ok (.dup, 1) := by decide +kernel
theorem dX12_begin_2 : decode cX12_begin 2 = .ok (.getfield 393, 3) := by decide +kernel
theorem dX12_begin_5 : decode cX12_begin 5 = .ok (.iconst 1, 1) := by decide +kernel
theorem dX12_begin_6 : decode cX12_begin 6 = .ok (.iadd, 1) := by decide +kernel
theorem dX12_begin_7 : decode cX12_begin 7 = .ok (.putfield 393, 3) := by decide +kernel
theorem dX12_begin_10 : decode cX12_begin 10 = .ok (.aload_n 0, 1) := by decide +kernel
theorem dX12_begin_11 : decode cX12_begin 11 = .ok (.dup, 1) := by decide +kernel
theorem dX12_begin_12 : decode cX12_begin 12 = .ok (.getfield 396, 3) := by decide +kernel
theorem dX12_begin_15 : decode cX12_begin 15 = .ok (.aload_n 0, 1) := by decide +kernel
theorem dX12_begin_16 : decode cX12_begin 16 = .ok (.iload_n 1, 1) := by decide +kernel
theorem dX12_begin_17 : decode cX12_begin 17 = .ok (.invokevirtual 190, 3) := by decide +kernel
theorem dX12_begin_20 : decode cX12_begin 20 = .ok (.ifCond .eq 7, 3) := by decide +kernel
theorem dX12_begin_23 : decode cX12_begin 23 = .ok (.iconst 1, 1) := by decide +kernel
theorem dX12_begin_24 : decode cX12_begin 24 = .ok (.goto 4, 3) := by decide +kernel
theorem dX12_begin_27 : decode cX12_begin 27 = .ok (.iconst 0, 1) := by decide +kernel
theorem dX12_begin_28 : decode cX12_begin 28 = .ok (.iadd, 1) := by decide +kernel
theorem dX12_begin_29 : decode cX12_begin 29 = .ok (.putfield 396, 3) := by decide +kernel
theorem dX12_begin_32 : decode cX12_begin 32 = .ok (.aload_n 0, 1) := by decide +kernel
theorem dX12_begin_33 : decode cX12_begin 33 = .ok (.iconst 0, 1) := by decide +kernel
theorem dX12_begin_34 : decode cX12_begin 34 = .ok (.putfield 399, 3) := by decide +kernel
theorem dX12_begin_37 : decode cX12_begin 37 = .ok (.aload_n 0, 1) := by decide +kernel
theorem dX12_begin_38 : decode cX12_begin 38 = .ok (.invokevirtual 402, 3) := by decide +kernel
theorem dX12_begin_41 : decode cX12_begin 41 = .ok (.return_, 1) := by decide +kernel
theorem dX12_found_0 : decode cX12_found 0 = .ok (.aload_n 0, 1) := by decide +kernel
theorem dX12_found_1 : decode cX12_found 1 = .ok (.iload_n 1, 1) := by decide +kernel
theorem dX12_found_2 : decode cX12_found 2 = .ok (.putfield 399, 3) := by decide +kernel
theorem dX12_found_5 : decode cX12_found 5 = .ok (.aload_n 0, 1) := by decide +kernel
theorem dX12_found_6 : decode cX12_found 6 = .ok (.dup, 1) := by decide +kernel
theorem dX12_found_7 : decode cX12_found 7 = .ok (.getfield 405, 3) := by decide +kernel
theorem dX12_found_10 : decode cX12_found 10 = .ok (.iconst 1, 1) := by decide +kernel
theorem dX12_found_11 : decode cX12_found 11 = .ok (.iadd, 1) := by decide +kernel
theorem dX12_found_12 : decode cX12_found 12 = .ok (.putfield 405, 3) := by decide +kernel
theorem dX12_found_15 : decode cX12_found 15 = .ok (.iconst 0, 1) := by decide +kernel
theorem dX12_found_16 : decode cX12_found 16 = .ok (.ireturn, 1) := by decide +kernel
theorem dX12_reasonOfLog_0 : decode cX12_reasonOfLog 0 = .ok (.aload_n 0, 1) := by decide +kernel
theorem dX12_reasonOfLog_1 : decode cX12_reasonOfLog 1 = .ok (.iload_n 1, 1) := by decide +kernel
theorem dX12_reasonOfLog_2 : decode cX12_reasonOfLog 2 = .ok (.invokevirtual 190, 3) := by decide +kernel
theorem dX12_reasonOfLog_5 : decode cX12_reasonOfLog 5 = .ok (.ifCond .ne 7, 3) := by decide +kernel
theorem dX12_reasonOfLog_8 : decode cX12_reasonOfLog 8 = .ok (.iconst 4, 1) := by decide +kernel
theorem dX12_reasonOfLog_9 : decode cX12_reasonOfLog 9 = .ok (.goto 38, 3) := by decide +kernel
theorem dX12_reasonOfLog_12 : decode cX12_reasonOfLog 12 = .ok (.iload_n 2, 1) := by decide +kernel
theorem dX12_reasonOfLog_13 : decode cX12_reasonOfLog 13 = .ok (.i2l, 1) := by decide +kernel
theorem dX12_reasonOfLog_14 : decode cX12_reasonOfLog 14 = .ok (.lconst 0, 1) := by decide +kernel
theorem dX12_reasonOfLog_15 : decode cX12_reasonOfLog 15 = .ok (.ldc2_w 245, 3) := by decide +kernel
theorem dX12_reasonOfLog_18 : decode cX12_reasonOfLog 18 = .ok (.invokestatic 133, 3) := by decide +kernel
theorem dX12_reasonOfLog_21 : decode cX12_reasonOfLog 21 = .ok (.ifCond .ne 8, 3) := by decide +kernel
theorem dX12_reasonOfLog_24 : decode cX12_reasonOfLog 24 = .ok (.bipush 6, 2) := by decide +kernel
theorem dX12_reasonOfLog_26 : decode cX12_reasonOfLog 26 = .ok (.goto 21, 3) := by decide +kernel
theorem dX12_reasonOfLog_29 : decode cX12_reasonOfLog 29 = .ok (.aload_n 0, 1) := by decide +kernel
theorem dX12_reasonOfLog_30 : decode cX12_reasonOfLog 30 = .ok (.getfield 31, 3) := by decide +kernel
theorem dX12_reasonOfLog_33 : decode cX12_reasonOfLog 33 = .ok (.iconst 3, 1) := by decide +kernel
theorem dX12_reasonOfLog_34 : decode cX12_reasonOfLog 34 = .ok (.iload_n 1, 1) := by decide +kernel
theorem dX12_reasonOfLog_35 : decode cX12_reasonOfLog 35 = .ok (.imul, 1) := by decide +kernel
theorem dX12_reasonOfLog_36 : decode cX12_reasonOfLog 36 = .ok (.iload_n 2, 1) := by decide +kernel
theorem dX12_reasonOfLog_37 : decode cX12_reasonOfLog 37 = .ok (.iadd, 1) := by decide +kernel
theorem dX12_reasonOfLog_38 : decode cX12_reasonOfLog 38 = .ok (.iaload, 1) := by decide +kernel
theorem dX12_reasonOfLog_39 : decode cX12_reasonOfLog 39 = .ok (.ifCond .ge 7, 3) := by decide +kernel
theorem dX12_reasonOfLog_42 : decode cX12_reasonOfLog 42 = .ok (.iconst 1, 1) := by decide +kernel
theorem dX12_reasonOfLog_43 : decode cX12_reasonOfLog 43 = .ok (.goto 4, 3) := by decide +kernel
theorem dX12_reasonOfLog_46 : decode cX12_reasonOfLog 46 = .ok (.iconst 0, 1) := by decide +kernel
theorem dX12_reasonOfLog_47 : decode cX12_reasonOfLog 47 = .ok (.ireturn, 1) := by decide +kernel
theorem dX12_reasonOfLine_0 : decode cX12_reasonOfLine 0 = .ok (.aload_n 0, 1) := by decide +kernel
theorem dX12_reasonOfLine_1 : decode cX12_reasonOfLine 1 = .ok (.iload_n 1, 1) := by decide +kernel
theorem dX12_reasonOfLine_2 : decode cX12_reasonOfLine 2 = .ok (.iload_n 2, 1) := by decide +kernel
theorem dX12_reasonOfLine_3 : decode cX12_reasonOfLine 3 = .ok (.invokevirtual 408, 3) := by decide +kernel
theorem dX12_reasonOfLine_6 : decode cX12_reasonOfLine 6 = .ok (.istore 4, 2) := by decide +kernel
theorem dX12_reasonOfLine_8 : decode cX12_reasonOfLine 8 = .ok (.iload 4, 2) := by decide +kernel
theorem dX12_reasonOfLine_10 : decode cX12_reasonOfLine 10 = .ok (.ifCond .le 8, 3) := by decide +kernel
theorem dX12_reasonOfLine_13 : decode cX12_reasonOfLine 13 = .ok (.iload 4, 2) := by decide +kernel
theorem dX12_reasonOfLine_15 : decode cX12_reasonOfLine 15 = .ok (.goto 30, 3) := by decide +kernel
theorem dX12_reasonOfLine_18 : decode cX12_reasonOfLine 18 = .ok (.iload_n 3, 1) := by decide +kernel
theorem dX12_reasonOfLine_19 : decode cX12_reasonOfLine 19 = .ok (.i2l, 1) := by decide +kernel
theorem dX12_reasonOfLine_20 : decode cX12_reasonOfLine 20 = .ok (.lconst 0, 1) := by decide +kernel
theorem dX12_reasonOfLine_21 : decode cX12_reasonOfLine 21 = .ok (.aload_n 0, 1) := by decide +kernel
theorem dX12_reasonOfLine_22 : decode cX12_reasonOfLine 22 = .ok (.getfield 31, 3) := by decide +kernel
theorem dX12_reasonOfLine_25 : decode cX12_reasonOfLine 25 = .ok (.iconst 3, 1) := by decide +kernel
theorem dX12_reasonOfLine_26 : decode cX12_reasonOfLine 26 = .ok (.iload_n 1, 1) := by decide +kernel
theorem dX12_reasonOfLine_27 : decode cX12_reasonOfLine 27 = .ok (.imul, 1) := by decide +kernel
theorem dX12_reasonOfLine_28 : decode cX12_reasonOfLine 28 = .ok (.iload_n 2, 1) := by decide +kernel
theorem dX12_reasonOfLine_29 : decode cX12_reasonOfLine 29 = .ok (.iadd, 1) := by decide +kernel
theorem dX12_reasonOfLine_30 : decode cX12_reasonOfLine 30 = .ok (.iaload, 1) := by decide +kernel
theorem dX12_reasonOfLine_31 : decode cX12_reasonOfLine 31 = .ok (.iconst 1, 1) := by decide +kernel
theorem dX12_reasonOfLine_32 : decode cX12_reasonOfLine 32 = .ok (.isub, 1) := by decide +kernel
theorem dX12_reasonOfLine_33 : decode cX12_reasonOfLine 33 = .ok (.i2l, 1) := by decide +kernel
theorem dX12_reasonOfLine_34 : decode cX12_reasonOfLine 34 = .ok (.invokestatic 133, 3) := by decide +kernel
theorem dX12_reasonOfLine_37 : decode cX12_reasonOfLine 37 = .ok (.ifCond .eq 7, 3) := by decide +kernel
theorem dX12_reasonOfLine_40 : decode cX12_reasonOfLine 40 = .ok (.iconst 0, 1) := by decide +kernel
theorem dX12_reasonOfLine_41 : decode cX12_reasonOfLine 41 = .ok (.goto 4, 3) := by decide +kernel
theorem dX12_reasonOfLine_44 : decode cX12_reasonOfLine 44 = .ok (.iconst 2, 1) := by decide +kernel
theorem dX12_reasonOfLine_45 : decode cX12_reasonOfLine 45 = .ok (.ireturn, 1) := by decide +kernel
theorem dX12_reasonOfContact_0 : decode cX12_reasonOfContact 0 = .ok (.aload_n 0, 1) := by decide +kernel
theorem dX12_reasonOfContact_1 : decode cX12_reasonOfContact 1 = .ok (.iload_n 1, 1) := by decide +kernel
theorem dX12_reasonOfContact_2 : decode cX12_reasonOfContact 2 = .ok (.iload_n 2, 1) := by decide +kernel
theorem dX12_reasonOfContact_3 : decode cX12_reasonOfContact 3 = .ok (.iload_n 3, 1) := by decide +kernel
theorem dX12_reasonOfContact_4 : decode cX12_reasonOfContact 4 = .ok (.invokevirtual 411, 3) := by decide +kernel
theorem dX12_reasonOfContact_7 : decode cX12_reasonOfContact 7 = .ok (.istore 4, 2) := by decide +kernel
theorem dX12_reasonOfContact_9 : decode cX12_reasonOfContact 9 = .ok (.iload 4, 2) := by decide +kernel
theorem dX12_reasonOfContact_11 : decode cX12_reasonOfContact 11 = .ok (.ifCond .le 8, 3) := by decide +kernel
theorem dX12_reasonOfContact_14 : decode cX12_reasonOfContact 14 = .ok (.iload 4, 2) := by decide +kernel
theorem dX12_reasonOfContact_16 : decode cX12_reasonOfContact 16 = .ok (.goto 27, 3) := by decide +kernel
theorem dX12_reasonOfContact_19 : decode cX12_reasonOfContact 19 = .ok (.aload_n 0, 1) := by decide +kernel
theorem dX12_reasonOfContact_20 : decode cX12_reasonOfContact 20 = .ok (.getfield 34, 3) := by decide +kernel
theorem dX12_reasonOfContact_23 : decode cX12_reasonOfContact 23 = .ok (.bipush 48, 2) := by decide +kernel
theorem dX12_reasonOfContact_25 : decode cX12_reasonOfContact 25 = .ok (.iload_n 1, 1) := by decide +kernel
theorem dX12_reasonOfContact_26 : decode cX12_reasonOfContact 26 = .ok (.imul, 1) := by decide +kernel
theorem dX12_reasonOfContact_27 : decode cX12_reasonOfContact 27 = .ok (.bipush 16, 2) := by decide +kernel
theorem dX12_reasonOfContact_29 : decode cX12_reasonOfContact 29 = .ok (.iload_n 2, 1) := by decide +kernel
theorem dX12_reasonOfContact_30 : decode cX12_reasonOfContact 30 = .ok (.imul, 1) := by decide +kernel
theorem dX12_reasonOfContact_31 : decode cX12_reasonOfContact 31 = .ok (.iadd, 1) := by decide +kernel
theorem dX12_reasonOfContact_32 : decode cX12_reasonOfContact 32 = .ok (.iload_n 3, 1) := by decide +kernel
theorem dX12_reasonOfContact_33 : decode cX12_reasonOfContact 33 = .ok (.iadd, 1) := by decide +kernel
theorem dX12_reasonOfContact_34 : decode cX12_reasonOfContact 34 = .ok (.iaload, 1) := by decide +kernel
theorem dX12_reasonOfContact_35 : decode cX12_reasonOfContact 35 = .ok (.ifCond .ne 7, 3) := by decide +kernel
theorem dX12_reasonOfContact_38 : decode cX12_reasonOfContact 38 = .ok (.iconst 0, 1) := by decide +kernel
theorem dX12_reasonOfContact_39 : decode cX12_reasonOfContact 39 = .ok (.goto 4, 3) := by decide +kernel
theorem dX12_reasonOfContact_42 : decode cX12_reasonOfContact 42 = .ok (.iconst 3, 1) := by decide +kernel
theorem dX12_reasonOfContact_43 : decode cX12_reasonOfContact 43 = .ok (.ireturn, 1) := by decide +kernel
theorem dX12_entryAt_0 : decode cX12_entryAt 0 = .ok (.bipush 48, 2) := by decide +kernel
theorem dX12_entryAt_2 : decode cX12_entryAt 2 = .ok (.iload_n 0, 1) := by decide +kernel
theorem dX12_entryAt_3 : decode cX12_entryAt 3 = .ok (.imul, 1) := by decide +kernel
theorem dX12_entryAt_4 : decode cX12_entryAt 4 = .ok (.bipush 16, 2) := by decide +kernel
theorem dX12_entryAt_6 : decode cX12_entryAt 6 = .ok (.iload_n 1, 1) := by decide +kernel
theorem dX12_entryAt_7 : decode cX12_entryAt 7 = .ok (.imul, 1) := by decide +kernel
theorem dX12_entryAt_8 : decode cX12_entryAt 8 = .ok (.iadd, 1) := by decide +kernel
theorem dX12_entryAt_9 : decode cX12_entryAt 9 = .ok (.iload_n 2, 1) := by decide +kernel
theorem dX12_entryAt_10 : decode cX12_entryAt 10 = .ok (.iadd, 1) := by decide +kernel
theorem dX12_entryAt_11 : decode cX12_entryAt 11 = .ok (.ireturn, 1) := by decide +kernel
theorem dX12_lines_0 : decode cX12_lines 0 = .ok (.aload_n 0, 1) := by decide +kernel
theorem dX12_lines_1 : decode cX12_lines 1 = .ok (.iload_n 1, 1) := by decide +kernel
theorem dX12_lines_2 : decode cX12_lines 2 = .ok (.invokevirtual 415, 3) := by decide +kernel
theorem dX12_lines_5 : decode cX12_lines 5 = .ok (.aload_n 0, 1) := by decide +kernel
theorem dX12_lines_6 : decode cX12_lines 6 = .ok (.iload_n 1, 1) := by decide +kernel
theorem dX12_lines_7 : decode cX12_lines 7 = .ok (.iload_n 2, 1) := by decide +kernel
theorem dX12_lines_8 : decode cX12_lines 8 = .ok (.invokevirtual 408, 3) := by decide +kernel
theorem dX12_lines_11 : decode cX12_lines 11 = .ok (.istore_n 3, 1) := by decide +kernel
theorem dX12_lines_12 : decode cX12_lines 12 = .ok (.iload_n 3, 1) := by decide +kernel
theorem dX12_lines_13 : decode cX12_lines 13 = .ok (.ifCond .le 11, 3) := by decide +kernel
theorem dX12_lines_16 : decode cX12_lines 16 = .ok (.aload_n 0, 1) := by decide +kernel
theorem dX12_lines_17 : decode cX12_lines 17 = .ok (.iload_n 3, 1) := by decide +kernel
theorem dX12_lines_18 : decode cX12_lines 18 = .ok (.invokevirtual 418, 3) := by decide +kernel
theorem dX12_lines_21 : decode cX12_lines 21 = .ok (.goto 13, 3) := by decide +kernel
theorem dX12_lines_24 : decode cX12_lines 24 = .ok (.aload_n 0, 1) := by decide +kernel
theorem dX12_lines_25 : decode cX12_lines 25 = .ok (.getfield 31, 3) := by decide +kernel
theorem dX12_lines_28 : decode cX12_lines 28 = .ok (.iconst 3, 1) := by decide +kernel
theorem dX12_lines_29 : decode cX12_lines 29 = .ok (.iload_n 1, 1) := by decide +kernel
theorem dX12_lines_30 : decode cX12_lines 30 = .ok (.imul, 1) := by decide +kernel
theorem dX12_lines_31 : decode cX12_lines 31 = .ok (.iload_n 2, 1) := by decide +kernel
theorem dX12_lines_32 : decode cX12_lines 32 = .ok (.iadd, 1) := by decide +kernel
theorem dX12_lines_33 : decode cX12_lines 33 = .ok (.iaload, 1) := by decide +kernel
theorem dX12_lines_34 : decode cX12_lines 34 = .ok (.ireturn, 1) := by decide +kernel
theorem dX12_entry_0 : decode cX12_entry 0 = .ok (.aload_n 0, 1) := by decide +kernel
theorem dX12_entry_1 : decode cX12_entry 1 = .ok (.iload_n 1, 1) := by decide +kernel
theorem dX12_entry_2 : decode cX12_entry 2 = .ok (.invokevirtual 415, 3) := by decide +kernel
theorem dX12_entry_5 : decode cX12_entry 5 = .ok (.aload_n 0, 1) := by decide +kernel
theorem dX12_entry_6 : decode cX12_entry 6 = .ok (.iload_n 1, 1) := by decide +kernel
theorem dX12_entry_7 : decode cX12_entry 7 = .ok (.iload_n 2, 1) := by decide +kernel
theorem dX12_entry_8 : decode cX12_entry 8 = .ok (.iload_n 3, 1) := by decide +kernel
theorem dX12_entry_9 : decode cX12_entry 9 = .ok (.invokevirtual 411, 3) := by decide +kernel
theorem dX12_entry_12 : decode cX12_entry 12 = .ok (.istore 4, 2) := by decide +kernel
theorem dX12_entry_14 : decode cX12_entry 14 = .ok (.iload 4, 2) := by decide +kernel
theorem dX12_entry_16 : decode cX12_entry 16 = .ok (.ifCond .le 12, 3) := by decide +kernel
theorem dX12_entry_19 : decode cX12_entry 19 = .ok (.aload_n 0, 1) := by decide +kernel
theorem dX12_entry_20 : decode cX12_entry 20 = .ok (.iload 4, 2) := by decide +kernel
theorem dX12_entry_22 : decode cX12_entry 22 = .ok (.invokevirtual 418, 3) := by decide +kernel
theorem dX12_entry_25 : decode cX12_entry 25 = .ok (.goto 14, 3) := by decide +kernel
theorem dX12_entry_28 : decode cX12_entry 28 = .ok (.aload_n 0, 1) := by decide +kernel
theorem dX12_entry_29 : decode cX12_entry 29 = .ok (.getfield 34, 3) := by decide +kernel
theorem dX12_entry_32 : decode cX12_entry 32 = .ok (.iload_n 1, 1) := by decide +kernel
theorem dX12_entry_33 : decode cX12_entry 33 = .ok (.iload_n 2, 1) := by decide +kernel
theorem dX12_entry_34 : decode cX12_entry 34 = .ok (.iload_n 3, 1) := by decide +kernel
theorem dX12_entry_35 : decode cX12_entry 35 = .ok (.invokestatic 421, 3) := by decide +kernel
theorem dX12_entry_38 : decode cX12_entry 38 = .ok (.iaload, 1) := by decide +kernel
theorem dX12_entry_39 : decode cX12_entry 39 = .ok (.ireturn, 1) := by decide +kernel
theorem dX12_moment_0 : decode cX12_moment 0 = .ok (.aload_n 0, 1) := by decide +kernel
theorem dX12_moment_1 : decode cX12_moment 1 = .ok (.iload_n 1, 1) := by decide +kernel
theorem dX12_moment_2 : decode cX12_moment 2 = .ok (.invokevirtual 415, 3) := by decide +kernel
theorem dX12_moment_5 : decode cX12_moment 5 = .ok (.aload_n 0, 1) := by decide +kernel
theorem dX12_moment_6 : decode cX12_moment 6 = .ok (.iload_n 1, 1) := by decide +kernel
theorem dX12_moment_7 : decode cX12_moment 7 = .ok (.iload_n 2, 1) := by decide +kernel
theorem dX12_moment_8 : decode cX12_moment 8 = .ok (.iload_n 3, 1) := by decide +kernel
theorem dX12_moment_9 : decode cX12_moment 9 = .ok (.invokevirtual 411, 3) := by decide +kernel
theorem dX12_moment_12 : decode cX12_moment 12 = .ok (.istore 5, 2) := by decide +kernel
theorem dX12_moment_14 : decode cX12_moment 14 = .ok (.iload 5, 2) := by decide +kernel
theorem dX12_moment_16 : decode cX12_moment 16 = .ok (.ifCond .le 11, 3) := by decide +kernel
theorem dX12_moment_19 : decode cX12_moment 19 = .ok (.aload_n 0, 1) := by decide +kernel
theorem dX12_moment_20 : decode cX12_moment 20 = .ok (.iload 5, 2) := by decide +kernel
theorem dX12_moment_22 : decode cX12_moment 22 = .ok (.invokevirtual 418, 3) := by decide +kernel
theorem dX12_moment_25 : decode cX12_moment 25 = .ok (.i2l, 1) := by decide +kernel
theorem dX12_moment_26 : decode cX12_moment 26 = .ok (.lreturn, 1) := by decide +kernel
theorem dX12_moment_27 : decode cX12_moment 27 = .ok (.iload_n 1, 1) := by decide +kernel
theorem dX12_moment_28 : decode cX12_moment 28 = .ok (.iload_n 2, 1) := by decide +kernel
theorem dX12_moment_29 : decode cX12_moment 29 = .ok (.iload_n 3, 1) := by decide +kernel
theorem dX12_moment_30 : decode cX12_moment 30 = .ok (.invokestatic 421, 3) := by decide +kernel
theorem dX12_moment_33 : decode cX12_moment 33 = .ok (.istore 6, 2) := by decide +kernel
theorem dX12_moment_35 : decode cX12_moment 35 = .ok (.aload_n 0, 1) := by decide +kernel
theorem dX12_moment_36 : decode cX12_moment 36 = .ok (.getfield 34, 3) := by decide +kernel
theorem dX12_moment_39 : decode cX12_moment 39 = .ok (.iload 6, 2) := by decide +kernel
theorem dX12_moment_41 : decode cX12_moment 41 = .ok (.iaload, 1) := by decide +kernel
theorem dX12_moment_42 : decode cX12_moment 42 = .ok (.iconst 2, 1) := by decide +kernel
theorem dX12_moment_43 : decode cX12_moment 43 = .ok (.if_icmp .ne 10, 3) := by decide +kernel
theorem dX12_moment_46 : decode cX12_moment 46 = .ok (.aload_n 0, 1) := by decide +kernel
theorem dX12_moment_47 : decode cX12_moment 47 = .ok (.iconst 3, 1) := by decide +kernel
theorem dX12_moment_48 : decode cX12_moment 48 = .ok (.invokevirtual 418, 3) := by decide +kernel
theorem dX12_moment_51 : decode cX12_moment 51 = .ok (.i2l, 1) := by decide +kernel
theorem dX12_moment_52 : decode cX12_moment 52 = .ok (.lreturn, 1) := by decide +kernel
theorem dX12_moment_53 : decode cX12_moment 53 = .ok (.iload 4, 2) := by decide +kernel
theorem dX12_moment_55 : decode cX12_moment 55 = .ok (.i2l, 1) := by decide +kernel
theorem dX12_moment_56 : decode cX12_moment 56 = .ok (.lconst 0, 1) := by decide +kernel
theorem dX12_moment_57 : decode cX12_moment 57 = .ok (.aload_n 0, 1) := by decide +kernel
theorem dX12_moment_58 : decode cX12_moment 58 = .ok (.getfield 34, 3) := by decide +kernel
theorem dX12_moment_61 : decode cX12_moment 61 = .ok (.iload 6, 2) := by decide +kernel
theorem dX12_moment_63 : decode cX12_moment 63 = .ok (.iaload, 1) := by decide +kernel
theorem dX12_moment_64 : decode cX12_moment 64 = .ok (.iconst 1, 1) := by decide +kernel
theorem dX12_moment_65 : decode cX12_moment 65 = .ok (.if_icmp .ne 7, 3) := by decide +kernel
theorem dX12_moment_68 : decode cX12_moment 68 = .ok (.lconst 1, 1) := by decide +kernel
theorem dX12_moment_69 : decode cX12_moment 69 = .ok (.goto 4, 3) := by decide +kernel
theorem dX12_moment_72 : decode cX12_moment 72 = .ok (.lconst 0, 1) := by decide +kernel
theorem dX12_moment_73 : decode cX12_moment 73 = .ok (.invokestatic 133, 3) := by decide +kernel
theorem dX12_moment_76 : decode cX12_moment 76 = .ok (.ifCond .ne 10, 3) := by decide +kernel
theorem dX12_moment_79 : decode cX12_moment 79 = .ok (.aload_n 0, 1) := by decide +kernel
theorem dX12_moment_80 : decode cX12_moment 80 = .ok (.iconst 2, 1) := by decide +kernel
theorem dX12_moment_81 : decode cX12_moment 81 = .ok (.invokevirtual 418, 3) := by decide +kernel
theorem dX12_moment_84 : decode cX12_moment 84 = .ok (.i2l, 1) := by decide +kernel
theorem dX12_moment_85 : decode cX12_moment 85 = .ok (.lreturn, 1) := by decide +kernel
theorem dX12_moment_86 : decode cX12_moment 86 = .ok (.iload 4, 2) := by decide +kernel
theorem dX12_moment_88 : decode cX12_moment 88 = .ok (.ifCond .ne 13, 3) := by decide +kernel
theorem dX12_moment_91 : decode cX12_moment 91 = .ok (.aload_n 0, 1) := by decide +kernel
theorem dX12_moment_92 : decode cX12_moment 92 = .ok (.getfield 37, 3) := by decide +kernel
theorem dX12_moment_95 : decode cX12_moment 95 = .ok (.iload 6, 2) := by decide +kernel
theorem dX12_moment_97 : decode cX12_moment 97 = .ok (.laload, 1) := by decide +kernel
theorem dX12_moment_98 : decode cX12_moment 98 = .ok (.goto 10, 3) := by decide +kernel
theorem dX12_moment_101 : decode cX12_moment 101 = .ok (.aload_n 0, 1) := by decide +kernel
theorem dX12_moment_102 : decode cX12_moment 102 = .ok (.getfield 41, 3) := by decide +kernel
theorem dX12_moment_105 : decode cX12_moment 105 = .ok (.iload 6, 2) := by decide +kernel
theorem dX12_moment_107 : decode cX12_moment 107 = .ok (.laload, 1) := by decide +kernel
theorem dX12_moment_108 : decode cX12_moment 108 = .ok (.lreturn, 1) := by decide +kernel
theorem dX12_character_0 : decode cX12_character 0 = .ok (.aload_n 0, 1) := by decide +kernel
theorem dX12_character_1 : decode cX12_character 1 = .ok (.iload_n 1, 1) := by decide +kernel
theorem dX12_character_2 : decode cX12_character 2 = .ok (.invokevirtual 415, 3) := by decide +kernel
theorem dX12_character_5 : decode cX12_character 5 = .ok (.aload_n 0, 1) := by decide +kernel
theorem dX12_character_6 : decode cX12_character 6 = .ok (.iload_n 1, 1) := by decide +kernel
theorem dX12_character_7 : decode cX12_character 7 = .ok (.iload_n 2, 1) := by decide +kernel
theorem dX12_character_8 : decode cX12_character 8 = .ok (.iload_n 3, 1) := by decide +kernel
theorem dX12_character_9 : decode cX12_character 9 = .ok (.invokevirtual 424, 3) := by decide +kernel
theorem dX12_character_12 : decode cX12_character 12 = .ok (.istore 5, 2) := by decide +kernel
theorem dX12_character_14 : decode cX12_character 14 = .ok (.iload 5, 2) := by decide +kernel
theorem dX12_character_16 : decode cX12_character 16 = .ok (.ifCond .le 10, 3) := by decide +kernel
theorem dX12_character_19 : decode cX12_character 19 = .ok (.aload_n 0, 1) := by decide +kernel
theorem dX12_character_20 : decode cX12_character 20 = .ok (.iload 5, 2) := by decide +kernel
theorem dX12_character_22 : decode cX12_character 22 = .ok (.invokevirtual 418, 3) := by decide +kernel
theorem dX12_character_25 : decode cX12_character 25 = .ok (.ireturn, 1) := by decide +kernel
theorem dX12_character_26 : decode cX12_character 26 = .ok (.iload_n 1, 1) := by decide +kernel
theorem dX12_character_27 : decode cX12_character 27 = .ok (.iload_n 2, 1) := by decide +kernel
theorem dX12_character_28 : decode cX12_character 28 = .ok (.iload_n 3, 1) := by decide +kernel
theorem dX12_character_29 : decode cX12_character 29 = .ok (.invokestatic 421, 3) := by decide +kernel
theorem dX12_character_32 : decode cX12_character 32 = .ok (.istore 6, 2) := by decide +kernel
theorem dX12_character_34 : decode cX12_character 34 = .ok (.iload 4, 2) := by decide +kernel
theorem dX12_character_36 : decode cX12_character 36 = .ok (.i2l, 1) := by decide +kernel
theorem dX12_character_37 : decode cX12_character 37 = .ok (.lconst 0, 1) := by decide +kernel
theorem dX12_character_38 : decode cX12_character 38 = .ok (.aload_n 0, 1) := by decide +kernel
theorem dX12_character_39 : decode cX12_character 39 = .ok (.getfield 44, 3) := by decide +kernel
theorem dX12_character_42 : decode cX12_character 42 = .ok (.iload 6, 2) := by decide +kernel
theorem dX12_character_44 : decode cX12_character 44 = .ok (.iaload, 1) := by decide +kernel
theorem dX12_character_45 : decode cX12_character 45 = .ok (.iconst 1, 1) := by decide +kernel
theorem dX12_character_46 : decode cX12_character 46 = .ok (.isub, 1) := by decide +kernel
theorem dX12_character_47 : decode cX12_character 47 = .ok (.i2l, 1) := by decide +kernel
theorem dX12_character_48 : decode cX12_character 48 = .ok (.invokestatic 133, 3) := by decide +kernel
theorem dX12_character_51 : decode cX12_character 51 = .ok (.ifCond .eq 19, 3) := by decide +kernel
theorem dX12_character_54 : decode cX12_character 54 = .ok (.aload_n 0, 1) := by decide +kernel
theorem dX12_character_55 : decode cX12_character 55 = .ok (.getfield 47, 3) := by decide +kernel
theorem dX12_character_58 : decode cX12_character 58 = .ok (.bipush 6, 2) := by decide +kernel
theorem dX12_character_60 : decode cX12_character 60 = .ok (.iload 6, 2) := by decide +kernel
theorem dX12_character_62 : decode cX12_character 62 = .ok (.imul, 1) := by decide +kernel
theorem dX12_character_63 : decode cX12_character 63 = .ok (.iload 4, 2) := by decide +kernel
theorem dX12_character_65 : decode cX12_character 65 = .ok (.iadd, 1) := by decide +kernel
theorem dX12_character_66 : decode cX12_character 66 = .ok (.iaload, 1) := by decide +kernel
theorem dX12_character_67 : decode cX12_character 67 = .ok (.goto 8, 3) := by decide +kernel
theorem dX12_character_70 : decode cX12_character 70 = .ok (.aload_n 0, 1) := by decide +kernel
theorem dX12_character_71 : decode cX12_character 71 = .ok (.iconst 2, 1) := by decide +kernel
theorem dX12_character_72 : decode cX12_character 72 = .ok (.invokevirtual 418, 3) := by decide +kernel
theorem dX12_character_75 : decode cX12_character 75 = .ok (.ireturn, 1) := by decide +kernel
theorem dX12_number_0 : decode cX12_number 0 = .ok (.aload_n 0, 1) := by decide +kernel
theorem dX12_number_1 : decode cX12_number 1 = .ok (.iload_n 1, 1) := by decide +kernel
theorem dX12_number_2 : decode cX12_number 2 = .ok (.invokevirtual 415, 3) := by decide +kernel
theorem dX12_number_5 : decode cX12_number 5 = .ok (.aload_n 0, 1) := by decide +kernel
theorem dX12_number_6 : decode cX12_number 6 = .ok (.iload_n 1, 1) := by decide +kernel
theorem dX12_number_7 : decode cX12_number 7 = .ok (.iload_n 2, 1) := by decide +kernel
theorem dX12_number_8 : decode cX12_number 8 = .ok (.iload_n 3, 1) := by decide +kernel
theorem dX12_number_9 : decode cX12_number 9 = .ok (.invokevirtual 424, 3) := by decide +kernel
theorem dX12_number_12 : decode cX12_number 12 = .ok (.istore 5, 2) := by decide +kernel
theorem dX12_number_14 : decode cX12_number 14 = .ok (.iload 5, 2) := by decide +kernel
theorem dX12_number_16 : decode cX12_number 16 = .ok (.ifCond .le 10, 3) := by decide +kernel
theorem dX12_number_19 : decode cX12_number 19 = .ok (.aload_n 0, 1) := by decide +kernel
theorem dX12_number_20 : decode cX12_number 20 = .ok (.iload 5, 2) := by decide +kernel
theorem dX12_number_22 : decode cX12_number 22 = .ok (.invokevirtual 418, 3) := by decide +kernel
theorem dX12_number_25 : decode cX12_number 25 = .ok (.ireturn, 1) := by decide +kernel
theorem dX12_number_26 : decode cX12_number 26 = .ok (.iload_n 1, 1) := by decide +kernel
theorem dX12_number_27 : decode cX12_number 27 = .ok (.iload_n 2, 1) := by decide +kernel
theorem dX12_number_28 : decode cX12_number 28 = .ok (.iload_n 3, 1) := by decide +kernel
theorem dX12_number_29 : decode cX12_number 29 = .ok (.invokestatic 421, 3) := by decide +kernel
theorem dX12_number_32 : decode cX12_number 32 = .ok (.istore 6, 2) := by decide +kernel
theorem dX12_number_34 : decode cX12_number 34 = .ok (.iload 4, 2) := by decide +kernel
theorem dX12_number_36 : decode cX12_number 36 = .ok (.ifCond .ne 13, 3) := by decide +kernel
theorem dX12_number_39 : decode cX12_number 39 = .ok (.aload_n 0, 1) := by decide +kernel
theorem dX12_number_40 : decode cX12_number 40 = .ok (.getfield 50, 3) := by decide +kernel
theorem dX12_number_43 : decode cX12_number 43 = .ok (.iload 6, 2) := by decide +kernel
theorem dX12_number_45 : decode cX12_number 45 = .ok (.iaload, 1) := by decide +kernel
theorem dX12_number_46 : decode cX12_number 46 = .ok (.goto 20, 3) := by decide +kernel
theorem dX12_number_49 : decode cX12_number 49 = .ok (.iload 4, 2) := by decide +kernel
theorem dX12_number_51 : decode cX12_number 51 = .ok (.iconst 1, 1) := by decide +kernel
theorem dX12_number_52 : decode cX12_number 52 = .ok (.if_icmp .ne 13, 3) := by decide +kernel
theorem dX12_number_55 : decode cX12_number 55 = .ok (.aload_n 0, 1) := by decide +kernel
theorem dX12_number_56 : decode cX12_number 56 = .ok (.getfield 53, 3) := by decide +kernel
theorem dX12_number_59 : decode cX12_number 59 = .ok (.iload 6, 2) := by decide +kernel
theorem dX12_number_61 : decode cX12_number 61 = .ok (.iaload, 1) := by decide +kernel
theorem dX12_number_62 : decode cX12_number 62 = .ok (.goto 4, 3) := by decide +kernel
theorem dX12_number_65 : decode cX12_number 65 = .ok (.iconst (-1), 1) := by decide +kernel
theorem dX12_number_66 : decode cX12_number 66 = .ok (.istore 7, 2) := by decide +kernel
theorem dX12_number_68 : decode cX12_number 68 = .ok (.iload 7, 2) := by decide +kernel
theorem dX12_number_70 : decode cX12_number 70 = .ok (.ifCond .ge 11, 3) := by decide +kernel
theorem dX12_number_73 : decode cX12_number 73 = .ok (.aload_n 0, 1) := by decide +kernel
theorem dX12_number_74 : decode cX12_number 74 = .ok (.iconst 2, 1) := by decide +kernel
theorem dX12_number_75 : decode cX12_number 75 = .ok (.invokevirtual 418, 3) := by decide +kernel
theorem dX12_number_78 : decode cX12_number 78 = .ok (.goto 5, 3) := by decide +kernel
theorem dX12_number_81 : decode cX12_number 81 = .ok (.iload 7, 2) := by decide +kernel
theorem dX12_number_83 : decode cX12_number 83 = .ok (.ireturn, 1) := by decide +kernel
theorem dX12_offset_0 : decode cX12_offset 0 = .ok (.aload_n 0, 1) := by decide +kernel
theorem dX12_offset_1 : decode cX12_offset 1 = .ok (.iload_n 1, 1) := by decide +kernel
theorem dX12_offset_2 : decode cX12_offset 2 = .ok (.invokevirtual 415, 3) := by decide +kernel
theorem dX12_offset_5 : decode cX12_offset 5 = .ok (.aload_n 0, 1) := by decide +kernel
theorem dX12_offset_6 : decode cX12_offset 6 = .ok (.iload_n 1, 1) := by decide +kernel
theorem dX12_offset_7 : decode cX12_offset 7 = .ok (.invokevirtual 190, 3) := by decide +kernel
theorem dX12_offset_10 : decode cX12_offset 10 = .ok (.ifCond .ne 10, 3) := by decide +kernel
theorem dX12_offset_13 : decode cX12_offset 13 = .ok (.aload_n 0, 1) := by decide +kernel
theorem dX12_offset_14 : decode cX12_offset 14 = .ok (.iconst 4, 1) := by decide +kernel
theorem dX12_offset_15 : decode cX12_offset 15 = .ok (.invokevirtual 418, 3) := by decide +kernel
theorem dX12_offset_18 : decode cX12_offset 18 = .ok (.i2l, 1) := by decide +kernel
theorem dX12_offset_19 : decode cX12_offset 19 = .ok (.lreturn, 1) := by decide +kernel
theorem dX12_offset_20 : decode cX12_offset 20 = .ok (.aload_n 0, 1) := by decide +kernel
theorem dX12_offset_21 : decode cX12_offset 21 = .ok (.iload_n 1, 1) := by decide +kernel
theorem dX12_offset_22 : decode cX12_offset 22 = .ok (.invokevirtual 314, 3) := by decide +kernel
theorem dX12_offset_25 : decode cX12_offset 25 = .ok (.ifCond .eq 12, 3) := by decide +kernel
theorem dX12_offset_28 : decode cX12_offset 28 = .ok (.aload_n 0, 1) := by decide +kernel
theorem dX12_offset_29 : decode cX12_offset 29 = .ok (.getfield 62, 3) := by decide +kernel
theorem dX12_offset_32 : decode cX12_offset 32 = .ok (.iload_n 1, 1) := by decide +kernel
theorem dX12_offset_33 : decode cX12_offset 33 = .ok (.laload, 1) := by decide +kernel
theorem dX12_offset_34 : decode cX12_offset 34 = .ok (.goto 10, 3) := by decide +kernel
theorem dX12_offset_37 : decode cX12_offset 37 = .ok (.aload_n 0, 1) := by decide +kernel
theorem dX12_offset_38 : decode cX12_offset 38 = .ok (.bipush 7, 2) := by decide +kernel
theorem dX12_offset_40 : decode cX12_offset 40 = .ok (.invokevirtual 418, 3) := by decide +kernel
theorem dX12_offset_43 : decode cX12_offset 43 = .ok (.i2l, 1) := by decide +kernel
theorem dX12_offset_44 : decode cX12_offset 44 = .ok (.lreturn, 1) := by decide +kernel
theorem dX12_pair_0 : decode cX12_pair 0 = .ok (.aload_n 0, 1) := by decide +kernel
theorem dX12_pair_1 : decode cX12_pair 1 = .ok (.iload_n 1, 1) := by decide +kernel
theorem dX12_pair_2 : decode cX12_pair 2 = .ok (.invokevirtual 415, 3) := by decide +kernel
theorem dX12_pair_5 : decode cX12_pair 5 = .ok (.aload_n 0, 1) := by decide +kernel
theorem dX12_pair_6 : decode cX12_pair 6 = .ok (.iload_n 1, 1) := by decide +kernel
theorem dX12_pair_7 : decode cX12_pair 7 = .ok (.iload_n 2, 1) := by decide +kernel
theorem dX12_pair_8 : decode cX12_pair 8 = .ok (.iload_n 3, 1) := by decide +kernel
theorem dX12_pair_9 : decode cX12_pair 9 = .ok (.invokevirtual 424, 3) := by decide +kernel
theorem dX12_pair_12 : decode cX12_pair 12 = .ok (.istore 4, 2) := by decide +kernel
theorem dX12_pair_14 : decode cX12_pair 14 = .ok (.iload 4, 2) := by decide +kernel
theorem dX12_pair_16 : decode cX12_pair 16 = .ok (.ifCond .le 10, 3) := by decide +kernel
theorem dX12_pair_19 : decode cX12_pair 19 = .ok (.aload_n 0, 1) := by decide +kernel
theorem dX12_pair_20 : decode cX12_pair 20 = .ok (.iload 4, 2) := by decide +kernel
theorem dX12_pair_22 : decode cX12_pair 22 = .ok (.invokevirtual 418, 3) := by decide +kernel
theorem dX12_pair_25 : decode cX12_pair 25 = .ok (.ireturn, 1) := by decide +kernel
theorem dX12_pair_26 : decode cX12_pair 26 = .ok (.aload_n 0, 1) := by decide +kernel
theorem dX12_pair_27 : decode cX12_pair 27 = .ok (.getfield 59, 3) := by decide +kernel
theorem dX12_pair_30 : decode cX12_pair 30 = .ok (.iload_n 1, 1) := by decide +kernel
theorem dX12_pair_31 : decode cX12_pair 31 = .ok (.iload_n 2, 1) := by decide +kernel
theorem dX12_pair_32 : decode cX12_pair 32 = .ok (.iload_n 3, 1) := by decide +kernel
theorem dX12_pair_33 : decode cX12_pair 33 = .ok (.invokestatic 421, 3) := by decide +kernel
theorem dX12_pair_36 : decode cX12_pair 36 = .ok (.iaload, 1) := by decide +kernel
theorem dX12_pair_37 : decode cX12_pair 37 = .ok (.istore 5, 2) := by decide +kernel
theorem dX12_pair_39 : decode cX12_pair 39 = .ok (.iload 5, 2) := by decide +kernel
theorem dX12_pair_41 : decode cX12_pair 41 = .ok (.ifCond .ge 7, 3) := by decide +kernel
theorem dX12_pair_44 : decode cX12_pair 44 = .ok (.iconst (-1), 1) := by decide +kernel
theorem dX12_pair_45 : decode cX12_pair 45 = .ok (.goto 17, 3) := by decide +kernel
theorem dX12_pair_48 : decode cX12_pair 48 = .ok (.bipush 100, 2) := by decide +kernel
theorem dX12_pair_50 : decode cX12_pair 50 = .ok (.iload 5, 2) := by decide +kernel
theorem dX12_pair_52 : decode cX12_pair 52 = .ok (.bipush 48, 2) := by decide +kernel
theorem dX12_pair_54 : decode cX12_pair 54 = .ok (.idiv, 1) := by decide +kernel
theorem dX12_pair_55 : decode cX12_pair 55 = .ok (.imul, 1) := by decide +kernel
theorem dX12_pair_56 : decode cX12_pair 56 = .ok (.iload 5, 2) := by decide +kernel
theorem dX12_pair_58 : decode cX12_pair 58 = .ok (.bipush 16, 2) := by decide +kernel
theorem dX12_pair_60 : decode cX12_pair 60 = .ok (.irem, 1) := by decide +kernel
theorem dX12_pair_61 : decode cX12_pair 61 = .ok (.iadd, 1) := by decide +kernel
theorem dX12_pair_62 : decode cX12_pair 62 = .ok (.ireturn, 1) := by decide +kernel
theorem dX12_why_0 : decode cX12_why 0 = .ok (.aload_n 0, 1) := by decide +kernel
theorem dX12_why_1 : decode cX12_why 1 = .ok (.iload_n 1, 1) := by decide +kernel
theorem dX12_why_2 : decode cX12_why 2 = .ok (.invokevirtual 415, 3) := by decide +kernel
theorem dX12_why_5 : decode cX12_why 5 = .ok (.aload_n 0, 1) := by decide +kernel
theorem dX12_why_6 : decode cX12_why 6 = .ok (.iload_n 1, 1) := by decide +kernel
theorem dX12_why_7 : decode cX12_why 7 = .ok (.iload_n 2, 1) := by decide +kernel
theorem dX12_why_8 : decode cX12_why 8 = .ok (.iload_n 3, 1) := by decide +kernel
theorem dX12_why_9 : decode cX12_why 9 = .ok (.invokevirtual 424, 3) := by decide +kernel
theorem dX12_why_12 : decode cX12_why 12 = .ok (.istore 4, 2) := by decide +kernel
theorem dX12_why_14 : decode cX12_why 14 = .ok (.iload 4, 2) := by decide +kernel
theorem dX12_why_16 : decode cX12_why 16 = .ok (.ifCond .le 12, 3) := by decide +kernel
theorem dX12_why_19 : decode cX12_why 19 = .ok (.aload_n 0, 1) := by decide +kernel
theorem dX12_why_20 : decode cX12_why 20 = .ok (.iload 4, 2) := by decide +kernel
theorem dX12_why_22 : decode cX12_why 22 = .ok (.invokevirtual 418, 3) := by decide +kernel
theorem dX12_why_25 : decode cX12_why 25 = .ok (.goto 13, 3) := by decide +kernel
theorem dX12_why_28 : decode cX12_why 28 = .ok (.aload_n 0, 1) := by decide +kernel
theorem dX12_why_29 : decode cX12_why 29 = .ok (.iload_n 1, 1) := by decide +kernel
theorem dX12_why_30 : decode cX12_why 30 = .ok (.iload_n 2, 1) := by decide +kernel
theorem dX12_why_31 : decode cX12_why 31 = .ok (.iload_n 3, 1) := by decide +kernel
theorem dX12_why_32 : decode cX12_why 32 = .ok (.invokestatic 421, 3) := by decide +kernel
theorem dX12_why_35 : decode cX12_why 35 = .ok (.invokevirtual 377, 3) := by decide +kernel
theorem dX12_why_38 : decode cX12_why 38 = .ok (.ireturn, 1) := by decide +kernel
theorem dX12_meant_0 : decode cX12_meant 0 = .ok (.aload_n 0, 1) := by decide +kernel
theorem dX12_meant_1 : decode cX12_meant 1 = .ok (.iload_n 1, 1) := by decide +kernel
theorem dX12_meant_2 : decode cX12_meant 2 = .ok (.invokevirtual 415, 3) := by decide +kernel
theorem dX12_meant_5 : decode cX12_meant 5 = .ok (.aload_n 0, 1) := by decide +kernel
theorem dX12_meant_6 : decode cX12_meant 6 = .ok (.iload_n 1, 1) := by decide +kernel
theorem dX12_meant_7 : decode cX12_meant 7 = .ok (.iload_n 2, 1) := by decide +kernel
theorem dX12_meant_8 : decode cX12_meant 8 = .ok (.iload_n 3, 1) := by decide +kernel
theorem dX12_meant_9 : decode cX12_meant 9 = .ok (.invokevirtual 424, 3) := by decide +kernel
theorem dX12_meant_12 : decode cX12_meant 12 = .ok (.istore 4, 2) := by decide +kernel
theorem dX12_meant_14 : decode cX12_meant 14 = .ok (.iload 4, 2) := by decide +kernel
theorem dX12_meant_16 : decode cX12_meant 16 = .ok (.ifCond .le 10, 3) := by decide +kernel
theorem dX12_meant_19 : decode cX12_meant 19 = .ok (.aload_n 0, 1) := by decide +kernel
theorem dX12_meant_20 : decode cX12_meant 20 = .ok (.iload 4, 2) := by decide +kernel
theorem dX12_meant_22 : decode cX12_meant 22 = .ok (.invokevirtual 418, 3) := by decide +kernel
theorem dX12_meant_25 : decode cX12_meant 25 = .ok (.ireturn, 1) := by decide +kernel
theorem dX12_meant_26 : decode cX12_meant 26 = .ok (.iload_n 1, 1) := by decide +kernel
theorem dX12_meant_27 : decode cX12_meant 27 = .ok (.iload_n 2, 1) := by decide +kernel
theorem dX12_meant_28 : decode cX12_meant 28 = .ok (.iload_n 3, 1) := by decide +kernel
theorem dX12_meant_29 : decode cX12_meant 29 = .ok (.invokestatic 421, 3) := by decide +kernel
theorem dX12_meant_32 : decode cX12_meant 32 = .ok (.istore 5, 2) := by decide +kernel
theorem dX12_meant_34 : decode cX12_meant 34 = .ok (.aload_n 0, 1) := by decide +kernel
theorem dX12_meant_35 : decode cX12_meant 35 = .ok (.iload 5, 2) := by decide +kernel
theorem dX12_meant_37 : decode cX12_meant 37 = .ok (.invokevirtual 377, 3) := by decide +kernel
theorem dX12_meant_40 : decode cX12_meant 40 = .ok (.iconst 3, 1) := by decide +kernel
theorem dX12_meant_41 : decode cX12_meant 41 = .ok (.if_icmp .ne 12, 3) := by decide +kernel
theorem dX12_meant_44 : decode cX12_meant 44 = .ok (.aload_n 0, 1) := by decide +kernel
theorem dX12_meant_45 : decode cX12_meant 45 = .ok (.iload 5, 2) := by decide +kernel
theorem dX12_meant_47 : decode cX12_meant 47 = .ok (.invokevirtual 370, 3) := by decide +kernel
theorem dX12_meant_50 : decode cX12_meant 50 = .ok (.goto 4, 3) := by decide +kernel
theorem dX12_meant_53 : decode cX12_meant 53 = .ok (.iconst (-1), 1) := by decide +kernel
theorem dX12_meant_54 : decode cX12_meant 54 = .ok (.ireturn, 1) := by decide +kernel
theorem dX12_points_0 : decode cX12_points 0 = .ok (.aload_n 0, 1) := by decide +kernel
theorem dX12_points_1 : decode cX12_points 1 = .ok (.iload_n 1, 1) := by decide +kernel
theorem dX12_points_2 : decode cX12_points 2 = .ok (.invokevirtual 415, 3) := by decide +kernel
theorem dX12_points_5 : decode cX12_points 5 = .ok (.aload_n 0, 1) := by decide +kernel
theorem dX12_points_6 : decode cX12_points 6 = .ok (.iload_n 1, 1) := by decide +kernel
theorem dX12_points_7 : decode cX12_points 7 = .ok (.iload_n 2, 1) := by decide +kernel
theorem dX12_points_8 : decode cX12_points 8 = .ok (.iload_n 3, 1) := by decide +kernel
theorem dX12_points_9 : decode cX12_points 9 = .ok (.invokevirtual 424, 3) := by decide +kernel
theorem dX12_points_12 : decode cX12_points 12 = .ok (.istore 4, 2) := by decide +kernel
theorem dX12_points_14 : decode cX12_points 14 = .ok (.iload 4, 2) := by decide +kernel
theorem dX12_points_16 : decode cX12_points 16 = .ok (.ifCond .le 10, 3) := by decide +kernel
theorem dX12_points_19 : decode cX12_points 19 = .ok (.aload_n 0, 1) := by decide +kernel
theorem dX12_points_20 : decode cX12_points 20 = .ok (.iload 4, 2) := by decide +kernel
theorem dX12_points_22 : decode cX12_points 22 = .ok (.invokevirtual 418, 3) := by decide +kernel
theorem dX12_points_25 : decode cX12_points 25 = .ok (.ireturn, 1) := by decide +kernel
theorem dX12_points_26 : decode cX12_points 26 = .ok (.aload_n 0, 1) := by decide +kernel
theorem dX12_points_27 : decode cX12_points 27 = .ok (.iconst 0, 1) := by decide +kernel
theorem dX12_points_28 : decode cX12_points 28 = .ok (.putfield 285, 3) := by decide +kernel
theorem dX12_points_31 : decode cX12_points 31 = .ok (.aload_n 0, 1) := by decide +kernel
theorem dX12_points_32 : decode cX12_points 32 = .ok (.iload_n 1, 1) := by decide +kernel
theorem dX12_points_33 : decode cX12_points 33 = .ok (.iload_n 2, 1) := by decide +kernel
theorem dX12_points_34 : decode cX12_points 34 = .ok (.iload_n 3, 1) := by decide +kernel
theorem dX12_points_35 : decode cX12_points 35 = .ok (.invokestatic 421, 3) := by decide +kernel
theorem dX12_points_38 : decode cX12_points 38 = .ok (.invokevirtual 380, 3) := by decide +kernel
theorem dX12_points_41 : decode cX12_points 41 = .ok (.istore 5, 2) := by decide +kernel
theorem dX12_points_43 : decode cX12_points 43 = .ok (.aload_n 0, 1) := by decide +kernel
theorem dX12_points_44 : decode cX12_points 44 = .ok (.getfield 285, 3) := by decide +kernel
theorem dX12_points_47 : decode cX12_points 47 = .ok (.ifCond .eq 11, 3) := by decide +kernel
theorem dX12_points_50 : decode cX12_points 50 = .ok (.aload_n 0, 1) := by decide +kernel
theorem dX12_points_51 : decode cX12_points 51 = .ok (.iconst 5, 1) := by decide +kernel
theorem dX12_points_52 : decode cX12_points 52 = .ok (.invokevirtual 418, 3) := by decide +kernel
theorem dX12_points_55 : decode cX12_points 55 = .ok (.goto 5, 3) := by decide +kernel
theorem dX12_points_58 : decode cX12_points 58 = .ok (.iload 5, 2) := by decide +kernel
theorem dX12_points_60 : decode cX12_points 60 = .ok (.ireturn, 1) := by decide +kernel
theorem dX12_total_0 : decode cX12_total 0 = .ok (.aload_n 0, 1) := by decide +kernel
theorem dX12_total_1 : decode cX12_total 1 = .ok (.iload_n 1, 1) := by decide +kernel
theorem dX12_total_2 : decode cX12_total 2 = .ok (.invokevirtual 415, 3) := by decide +kernel
theorem dX12_total_5 : decode cX12_total 5 = .ok (.aload_n 0, 1) := by decide +kernel
theorem dX12_total_6 : decode cX12_total 6 = .ok (.iload_n 1, 1) := by decide +kernel
theorem dX12_total_7 : decode cX12_total 7 = .ok (.invokevirtual 190, 3) := by decide +kernel
theorem dX12_total_10 : decode cX12_total 10 = .ok (.ifCond .ne 9, 3) := by decide +kernel
theorem dX12_total_13 : decode cX12_total 13 = .ok (.aload_n 0, 1) := by decide +kernel
theorem dX12_total_14 : decode cX12_total 14 = .ok (.iconst 4, 1) := by decide +kernel
theorem dX12_total_15 : decode cX12_total 15 = .ok (.invokevirtual 418, 3) := by decide +kernel
theorem dX12_total_18 : decode cX12_total 18 = .ok (.ireturn, 1) := by decide +kernel
theorem dX12_total_19 : decode cX12_total 19 = .ok (.aload_n 0, 1) := by decide +kernel
theorem dX12_total_20 : decode cX12_total 20 = .ok (.iload_n 1, 1) := by decide +kernel
theorem dX12_total_21 : decode cX12_total 21 = .ok (.invokevirtual 390, 3) := by decide +kernel
theorem dX12_total_24 : decode cX12_total 24 = .ok (.istore_n 2, 1) := by decide +kernel
theorem dX12_total_25 : decode cX12_total 25 = .ok (.aload_n 0, 1) := by decide +kernel
theorem dX12_total_26 : decode cX12_total 26 = .ok (.getfield 285, 3) := by decide +kernel
theorem dX12_total_29 : decode cX12_total 29 = .ok (.ifCond .eq 11, 3) := by decide +kernel
theorem dX12_total_32 : decode cX12_total 32 = .ok (.aload_n 0, 1) := by decide +kernel
theorem dX12_total_33 : decode cX12_total 33 = .ok (.iconst 5, 1) := by decide +kernel
theorem dX12_total_34 : decode cX12_total 34 = .ok (.invokevirtual 418, 3) := by decide +kernel
theorem dX12_total_37 : decode cX12_total 37 = .ok (.goto 4, 3) := by decide +kernel
theorem dX12_total_40 : decode cX12_total 40 = .ok (.iload_n 2, 1) := by decide +kernel
theorem dX12_total_41 : decode cX12_total 41 = .ok (.ireturn, 1) := by decide +kernel
theorem dX12_rate_0 : decode cX12_rate 0 = .ok (.aload_n 0, 1) := by decide +kernel
theorem dX12_rate_1 : decode cX12_rate 1 = .ok (.iload_n 1, 1) := by decide +kernel
theorem dX12_rate_2 : decode cX12_rate 2 = .ok (.invokevirtual 415, 3) := by decide +kernel
theorem dX12_rate_5 : decode cX12_rate 5 = .ok (.aload_n 0, 1) := by decide +kernel
theorem dX12_rate_6 : decode cX12_rate 6 = .ok (.iload_n 1, 1) := by decide +kernel
theorem dX12_rate_7 : decode cX12_rate 7 = .ok (.invokevirtual 190, 3) := by decide +kernel
theorem dX12_rate_10 : decode cX12_rate 10 = .ok (.ifCond .ne 10, 3) := by decide +kernel
theorem dX12_rate_13 : decode cX12_rate 13 = .ok (.aload_n 0, 1) := by decide +kernel
theorem dX12_rate_14 : decode cX12_rate 14 = .ok (.iconst 4, 1) := by decide +kernel
theorem dX12_rate_15 : decode cX12_rate 15 = .ok (.invokevirtual 418, 3) := by decide +kernel
theorem dX12_rate_18 : decode cX12_rate 18 = .ok (.i2l, 1) := by decide +kernel
theorem dX12_rate_19 : decode cX12_rate 19 = .ok (.lreturn, 1) := by decide +kernel
theorem dX12_rate_20 : decode cX12_rate 20 = .ok (.aload_n 0, 1) := by decide +kernel
theorem dX12_rate_21 : decode cX12_rate 21 = .ok (.iload_n 1, 1) := by decide +kernel
theorem dX12_rate_22 : decode cX12_rate 22 = .ok (.invokevirtual 314, 3) := by decide +kernel
theorem dX12_rate_25 : decode cX12_rate 25 = .ok (.ifCond .ne 11, 3) := by decide +kernel
theorem dX12_rate_28 : decode cX12_rate 28 = .ok (.aload_n 0, 1) := by decide +kernel
theorem dX12_rate_29 : decode cX12_rate 29 = .ok (.bipush 7, 2) := by decide +kernel
theorem dX12_rate_31 : decode cX12_rate 31 = .ok (.invokevirtual 418, 3) := by decide +kernel
theorem dX12_rate_34 : decode cX12_rate 34 = .ok (.i2l, 1) := by decide +kernel
theorem dX12_rate_35 : decode cX12_rate 35 = .ok (.lreturn, 1) := by decide +kernel
theorem dX12_rate_36 : decode cX12_rate 36 = .ok (.lconst 0, 1) := by decide +kernel
theorem dX12_rate_37 : decode cX12_rate 37 = .ok (.lstore_n 2, 1) := by decide +kernel
theorem dX12_rate_38 : decode cX12_rate 38 = .ok (.lconst 0, 1) := by decide +kernel
theorem dX12_rate_39 : decode cX12_rate 39 = .ok (.lstore 4, 2) := by decide +kernel
theorem dX12_rate_41 : decode cX12_rate 41 = .ok (.iconst 0, 1) := by decide +kernel
theorem dX12_rate_42 : decode cX12_rate 42 = .ok (.istore 6, 2) := by decide +kernel
theorem dX12_rate_44 : decode cX12_rate 44 = .ok (.iconst 0, 1) := by decide +kernel
theorem dX12_rate_45 : decode cX12_rate 45 = .ok (.istore 7, 2) := by decide +kernel
theorem dX12_rate_47 : decode cX12_rate 47 = .ok (.bipush 48, 2) := by decide +kernel
theorem dX12_rate_49 : decode cX12_rate 49 = .ok (.iload_n 1, 1) := by decide +kernel
theorem dX12_rate_50 : decode cX12_rate 50 = .ok (.imul, 1) := by decide +kernel
theorem dX12_rate_51 : decode cX12_rate 51 = .ok (.istore 8, 2) := by decide +kernel
theorem dX12_rate_53 : decode cX12_rate 53 = .ok (.iload 8, 2) := by decide +kernel
theorem dX12_rate_55 : decode cX12_rate 55 = .ok (.bipush 48, 2) := by decide +kernel
theorem dX12_rate_57 : decode cX12_rate 57 = .ok (.iload_n 1, 1) := by decide +kernel
theorem dX12_rate_58 : decode cX12_rate 58 = .ok (.imul, 1) := by decide +kernel
theorem dX12_rate_59 : decode cX12_rate 59 = .ok (.bipush 48, 2) := by decide +kernel
theorem dX12_rate_61 : decode cX12_rate 61 = .ok (.iadd, 1) := by decide +kernel
theorem dX12_rate_62 : decode cX12_rate 62 = .ok (.if_icmp .ge 104, 3) := by decide +kernel
theorem dX12_rate_65 : decode cX12_rate 65 = .ok (.aload_n 0, 1) := by decide +kernel
theorem dX12_rate_66 : decode cX12_rate 66 = .ok (.iload 8, 2) := by decide +kernel
theorem dX12_rate_68 : decode cX12_rate 68 = .ok (.invokevirtual 307, 3) := by decide +kernel
theorem dX12_rate_71 : decode cX12_rate 71 = .ok (.ifCond .ne 6, 3) := by decide +kernel
theorem dX12_rate_74 : decode cX12_rate 74 = .ok (.goto 86, 3) := by decide +kernel
theorem dX12_rate_77 : decode cX12_rate 77 = .ok (.iload 6, 2) := by decide +kernel
theorem dX12_rate_79 : decode cX12_rate 79 = .ok (.ifCond .eq 15, 3) := by decide +kernel
theorem dX12_rate_82 : decode cX12_rate 82 = .ok (.aload_n 0, 1) := by decide +kernel
theorem dX12_rate_83 : decode cX12_rate 83 = .ok (.getfield 37, 3) := by decide +kernel
theorem dX12_rate_86 : decode cX12_rate 86 = .ok (.iload 8, 2) := by decide +kernel
theorem dX12_rate_88 : decode cX12_rate 88 = .ok (.laload, 1) := by decide +kernel
theorem dX12_rate_89 : decode cX12_rate 89 = .ok (.lload_n 2, 1) := by decide +kernel
theorem dX12_rate_90 : decode cX12_rate 90 = .ok (.lcmp, 1) := by decide +kernel
theorem dX12_rate_91 : decode cX12_rate 91 = .ok (.ifCond .ge 13, 3) := by decide +kernel
theorem dX12_rate_94 : decode cX12_rate 94 = .ok (.aload_n 0, 1) := by decide +kernel
theorem dX12_rate_95 : decode cX12_rate 95 = .ok (.getfield 37, 3) := by decide +kernel
theorem dX12_rate_98 : decode cX12_rate 98 = .ok (.iload 8, 2) := by decide +kernel
theorem dX12_rate_100 : decode cX12_rate 100 = .ok (.laload, 1) := by decide +kernel
theorem dX12_rate_101 : decode cX12_rate 101 = .ok (.goto 4, 3) := by decide +kernel
theorem dX12_rate_104 : decode cX12_rate 104 = .ok (.lload_n 2, 1) := by decide +kernel
theorem dX12_rate_105 : decode cX12_rate 105 = .ok (.lstore_n 2, 1) := by decide +kernel
theorem dX12_rate_106 : decode cX12_rate 106 = .ok (.iload 6, 2) := by decide +kernel
theorem dX12_rate_108 : decode cX12_rate 108 = .ok (.ifCond .eq 16, 3) := by decide +kernel
theorem dX12_rate_111 : decode cX12_rate 111 = .ok (.aload_n 0, 1) := by decide +kernel
theorem dX12_rate_112 : decode cX12_rate 112 = .ok (.getfield 37, 3) := by decide +kernel
theorem dX12_rate_115 : decode cX12_rate 115 = .ok (.iload 8, 2) := by decide +kernel
theorem dX12_rate_117 : decode cX12_rate 117 = .ok (.laload, 1) := by decide +kernel
theorem dX12_rate_118 : decode cX12_rate 118 = .ok (.lload 4, 2) := by decide +kernel
theorem dX12_rate_120 : decode cX12_rate 120 = .ok (.lcmp, 1) := by decide +kernel
theorem dX12_rate_121 : decode cX12_rate 121 = .ok (.ifCond .le 13, 3) := by decide +kernel
theorem dX12_rate_124 : decode cX12_rate 124 = .ok (.aload_n 0, 1) := by decide +kernel
theorem dX12_rate_125 : decode cX12_rate 125 = .ok (.getfield 37, 3) := by decide +kernel
theorem dX12_rate_128 : decode cX12_rate 128 = .ok (.iload 8, 2) := by decide +kernel
theorem dX12_rate_130 : decode cX12_rate 130 = .ok (.laload, 1) := by decide +kernel
theorem dX12_rate_131 : decode cX12_rate 131 = .ok (.goto 5, 3) := by decide +kernel
theorem dX12_rate_134 : decode cX12_rate 134 = .ok (.lload 4, 2) := by decide +kernel
theorem dX12_rate_136 : decode cX12_rate 136 = .ok (.lstore 4, 2) := by decide +kernel
theorem dX12_rate_138 : decode cX12_rate 138 = .ok (.iinc 6 1, 3) := by decide +kernel
theorem dX12_rate_141 : decode cX12_rate 141 = .ok (.iload 7, 2) := by decide +kernel
theorem dX12_rate_143 : decode cX12_rate 143 = .ok (.aload_n 0, 1) := by decide +kernel
theorem dX12_rate_144 : decode cX12_rate 144 = .ok (.iload 8, 2) := by decide +kernel
theorem dX12_rate_146 : decode cX12_rate 146 = .ok (.invokevirtual 377, 3) := by decide +kernel
theorem dX12_rate_149 : decode cX12_rate 149 = .ok (.ifCond .ne 7, 3) := by decide +kernel
theorem dX12_rate_152 : decode cX12_rate 152 = .ok (.iconst 1, 1) := by decide +kernel
theorem dX12_rate_153 : decode cX12_rate 153 = .ok (.goto 4, 3) := by decide +kernel
theorem dX12_rate_156 : decode cX12_rate 156 = .ok (.iconst 0, 1) := by decide +kernel
theorem dX12_rate_157 : decode cX12_rate 157 = .ok (.iadd, 1) := by decide +kernel
theorem dX12_rate_158 : decode cX12_rate 158 = .ok (.istore 7, 2) := by decide +kernel
theorem dX12_rate_160 : decode cX12_rate 160 = .ok (.iinc 8 1, 3) := by decide +kernel
theorem dX12_rate_163 : decode cX12_rate 163 = .ok (.goto (-110), 3) := by decide +kernel
theorem dX12_rate_166 : decode cX12_rate 166 = .ok (.lload 4, 2) := by decide +kernel
theorem dX12_rate_168 : decode cX12_rate 168 = .ok (.lload_n 2, 1) := by decide +kernel
theorem dX12_rate_169 : decode cX12_rate 169 = .ok (.lcmp, 1) := by decide +kernel
theorem dX12_rate_170 : decode cX12_rate 170 = .ok (.ifCond .ne 12, 3) := by decide +kernel
theorem dX12_rate_173 : decode cX12_rate 173 = .ok (.aload_n 0, 1) := by decide +kernel
theorem dX12_rate_174 : decode cX12_rate 174 = .ok (.iconst 5, 1) := by decide +kernel
theorem dX12_rate_175 : decode cX12_rate 175 = .ok (.invokevirtual 418, 3) := by decide +kernel
theorem dX12_rate_178 : decode cX12_rate 178 = .ok (.i2l, 1) := by decide +kernel
theorem dX12_rate_179 : decode cX12_rate 179 = .ok (.goto 15, 3) := by decide +kernel
theorem dX12_rate_182 : decode cX12_rate 182 = .ok (.ldc2_w 288, 3) := by decide +kernel
theorem dX12_rate_185 : decode cX12_rate 185 = .ok (.iload 7, 2) := by decide +kernel
theorem dX12_rate_187 : decode cX12_rate 187 = .ok (.i2l, 1) := by decide +kernel
theorem dX12_rate_188 : decode cX12_rate 188 = .ok (.lmul, 1) := by decide +kernel
theorem dX12_rate_189 : decode cX12_rate 189 = .ok (.lload 4, 2) := by decide +kernel
theorem dX12_rate_191 : decode cX12_rate 191 = .ok (.lload_n 2, 1) := by decide +kernel
theorem dX12_rate_192 : decode cX12_rate 192 = .ok (.lsub, 1) := by decide +kernel
theorem dX12_rate_193 : decode cX12_rate 193 = .ok (.ldiv, 1) := by decide +kernel
theorem dX12_rate_194 : decode cX12_rate 194 = .ok (.lreturn, 1) := by decide +kernel
theorem dX12_isPlaced_0 : decode cX12_isPlaced 0 = .ok (.aload_n 0, 1) := by decide +kernel
theorem dX12_isPlaced_1 : decode cX12_isPlaced 1 = .ok (.getfield 7, 3) := by decide +kernel
theorem dX12_isPlaced_4 : decode cX12_isPlaced 4 = .ok (.iload_n 1, 1) := by decide +kernel
theorem dX12_isPlaced_5 : decode cX12_isPlaced 5 = .ok (.iaload, 1) := by decide +kernel
theorem dX12_isPlaced_6 : decode cX12_isPlaced 6 = .ok (.iconst 4, 1) := by decide +kernel
theorem dX12_isPlaced_7 : decode cX12_isPlaced 7 = .ok (.if_icmp .eq 17, 3) := by decide +kernel
theorem dX12_isPlaced_10 : decode cX12_isPlaced 10 = .ok (.aload_n 0, 1) := by decide +kernel
theorem dX12_isPlaced_11 : decode cX12_isPlaced 11 = .ok (.getfield 7, 3) := by decide +kernel
theorem dX12_isPlaced_14 : decode cX12_isPlaced 14 = .ok (.iload_n 1, 1) := by decide +kernel
theorem dX12_isPlaced_15 : decode cX12_isPlaced 15 = .ok (.iaload, 1) := by decide +kernel
theorem dX12_isPlaced_16 : decode cX12_isPlaced 16 = .ok (.iconst 3, 1) := by decide +kernel
theorem dX12_isPlaced_17 : decode cX12_isPlaced 17 = .ok (.if_icmp .eq 7, 3) := by decide +kernel
theorem dX12_isPlaced_20 : decode cX12_isPlaced 20 = .ok (.iconst 1, 1) := by decide +kernel
theorem dX12_isPlaced_21 : decode cX12_isPlaced 21 = .ok (.goto 4, 3) := by decide +kernel
theorem dX12_isPlaced_24 : decode cX12_isPlaced 24 = .ok (.iconst 0, 1) := by decide +kernel
theorem dX12_isPlaced_25 : decode cX12_isPlaced 25 = .ok (.ireturn, 1) := by decide +kernel
theorem dX12_place_0 : decode cX12_place 0 = .ok (.aload_n 0, 1) := by decide +kernel
theorem dX12_place_1 : decode cX12_place 1 = .ok (.iload_n 1, 1) := by decide +kernel
theorem dX12_place_2 : decode cX12_place 2 = .ok (.invokevirtual 415, 3) := by decide +kernel
theorem dX12_place_5 : decode cX12_place 5 = .ok (.aload_n 0, 1) := by decide +kernel
theorem dX12_place_6 : decode cX12_place 6 = .ok (.iload_n 1, 1) := by decide +kernel
theorem dX12_place_7 : decode cX12_place 7 = .ok (.invokevirtual 190, 3) := by decide +kernel
theorem dX12_place_10 : decode cX12_place 10 = .ok (.ifCond .ne 9, 3) := by decide +kernel
theorem dX12_place_13 : decode cX12_place 13 = .ok (.aload_n 0, 1) := by decide +kernel
theorem dX12_place_14 : decode cX12_place 14 = .ok (.iconst 4, 1) := by decide +kernel
theorem dX12_place_15 : decode cX12_place 15 = .ok (.invokevirtual 418, 3) := by decide +kernel
theorem dX12_place_18 : decode cX12_place 18 = .ok (.ireturn, 1) := by decide +kernel
theorem dX12_place_19 : decode cX12_place 19 = .ok (.aload_n 0, 1) := by decide +kernel
theorem dX12_place_20 : decode cX12_place 20 = .ok (.iload_n 1, 1) := by decide +kernel
theorem dX12_place_21 : decode cX12_place 21 = .ok (.invokevirtual 427, 3) := by decide +kernel
theorem dX12_place_24 : decode cX12_place 24 = .ok (.ifCond .ne 10, 3) := by decide +kernel
theorem dX12_place_27 : decode cX12_place 27 = .ok (.aload_n 0, 1) := by decide +kernel
theorem dX12_place_28 : decode cX12_place 28 = .ok (.bipush 7, 2) := by decide +kernel
theorem dX12_place_30 : decode cX12_place 30 = .ok (.invokevirtual 418, 3) := by decide +kernel
theorem dX12_place_33 : decode cX12_place 33 = .ok (.ireturn, 1) := by decide +kernel
theorem dX12_place_34 : decode cX12_place 34 = .ok (.aload_n 0, 1) := by decide +kernel
theorem dX12_place_35 : decode cX12_place 35 = .ok (.iload_n 1, 1) := by decide +kernel
theorem dX12_place_36 : decode cX12_place 36 = .ok (.invokevirtual 430, 3) := by decide +kernel
theorem dX12_place_39 : decode cX12_place 39 = .ok (.istore_n 2, 1) := by decide +kernel
theorem dX12_place_40 : decode cX12_place 40 = .ok (.iconst 1, 1) := by decide +kernel
theorem dX12_place_41 : decode cX12_place 41 = .ok (.istore_n 3, 1) := by decide +kernel
theorem dX12_place_42 : decode cX12_place 42 = .ok (.iconst 0, 1) := by decide +kernel
theorem dX12_place_43 : decode cX12_place 43 = .ok (.istore 4, 2) := by decide +kernel
theorem dX12_place_45 : decode cX12_place 45 = .ok (.iload 4, 2) := by decide +kernel
theorem dX12_place_47 : decode cX12_place 47 = .ok (.aload_n 0, 1) := by decide +kernel
theorem dX12_place_48 : decode cX12_place 48 = .ok (.getfield 130, 3) := by decide +kernel
theorem dX12_place_51 : decode cX12_place 51 = .ok (.if_icmp .ge 36, 3) := by decide +kernel
theorem dX12_place_54 : decode cX12_place 54 = .ok (.iload_n 3, 1) := by decide +kernel
theorem dX12_place_55 : decode cX12_place 55 = .ok (.aload_n 0, 1) := by decide +kernel
theorem dX12_place_56 : decode cX12_place 56 = .ok (.iload 4, 2) := by decide +kernel
theorem dX12_place_58 : decode cX12_place 58 = .ok (.invokevirtual 427, 3) := by decide +kernel
theorem dX12_place_61 : decode cX12_place 61 = .ok (.ifCond .eq 17, 3) := by decide +kernel
theorem dX12_place_64 : decode cX12_place 64 = .ok (.aload_n 0, 1) := by decide +kernel
theorem dX12_place_65 : decode cX12_place 65 = .ok (.iload 4, 2) := by decide +kernel
theorem dX12_place_67 : decode cX12_place 67 = .ok (.invokevirtual 430, 3) := by decide +kernel
theorem dX12_place_70 : decode cX12_place 70 = .ok (.iload_n 2, 1) := by decide +kernel
theorem dX12_place_71 : decode cX12_place 71 = .ok (.if_icmp .le 7, 3) := by decide +kernel
theorem dX12_place_74 : decode cX12_place 74 = .ok (.iconst 1, 1) := by decide +kernel
theorem dX12_place_75 : decode cX12_place 75 = .ok (.goto 4, 3) := by decide +kernel
theorem dX12_place_78 : decode cX12_place 78 = .ok (.iconst 0, 1) := by decide +kernel
theorem dX12_place_79 : decode cX12_place 79 = .ok (.iadd, 1) := by decide +kernel
theorem dX12_place_80 : decode cX12_place 80 = .ok (.istore_n 3, 1) := by decide +kernel
theorem dX12_place_81 : decode cX12_place 81 = .ok (.iinc 4 1, 3) := by decide +kernel
theorem dX12_place_84 : decode cX12_place 84 = .ok (.goto (-39), 3) := by decide +kernel
theorem dX12_place_87 : decode cX12_place 87 = .ok (.iload_n 3, 1) := by decide +kernel
theorem dX12_place_88 : decode cX12_place 88 = .ok (.ireturn, 1) := by decide +kernel
theorem dX12_publish_0 : decode cX12_publish 0 = .ok (.aload_n 0, 1) := by decide +kernel
theorem dX12_publish_1 : decode cX12_publish 1 = .ok (.getfield 433, 3) := by decide +kernel
theorem dX12_publish_4 : decode cX12_publish 4 = .ok (.bipush 20, 2) := by decide +kernel
theorem dX12_publish_6 : decode cX12_publish 6 = .ok (.if_icmp .ne 5, 3) := by decide +kernel
theorem dX12_publish_9 : decode cX12_publish 9 = .ok (.iconst (-1), 1) := by decide +kernel
theorem dX12_publish_10 : decode cX12_publish 10 = .ok (.ireturn, 1) := by decide +kernel
theorem dX12_publish_11 : decode cX12_publish 11 = .ok (.aload_n 0, 1) := by decide +kernel
theorem dX12_publish_12 : decode cX12_publish 12 = .ok (.invokevirtual 402, 3) := by decide +kernel
theorem dX12_publish_15 : decode cX12_publish 15 = .ok (.aload_n 0, 1) := by decide +kernel
theorem dX12_publish_16 : decode cX12_publish 16 = .ok (.dup, 1) := by decide +kernel
theorem dX12_publish_17 : decode cX12_publish 17 = .ok (.getfield 436, 3) := by decide +kernel
theorem dX12_publish_20 : decode cX12_publish 20 = .ok (.iconst 1, 1) := by decide +kernel
theorem dX12_publish_21 : decode cX12_publish 21 = .ok (.iadd, 1) := by decide +kernel
theorem dX12_publish_22 : decode cX12_publish 22 = .ok (.putfield 436, 3) := by decide +kernel
theorem dX12_publish_25 : decode cX12_publish 25 = .ok (.aload_n 0, 1) := by decide +kernel
theorem dX12_publish_26 : decode cX12_publish 26 = .ok (.getfield 90, 3) := by decide +kernel
theorem dX12_publish_29 : decode cX12_publish 29 = .ok (.aload_n 0, 1) := by decide +kernel
theorem dX12_publish_30 : decode cX12_publish 30 = .ok (.getfield 433, 3) := by decide +kernel
theorem dX12_publish_33 : decode cX12_publish 33 = .ok (.aload_n 0, 1) := by decide +kernel
theorem dX12_publish_34 : decode cX12_publish 34 = .ok (.getfield 436, 3) := by decide +kernel
theorem dX12_publish_37 : decode cX12_publish 37 = .ok (.iastore, 1) := by decide +kernel
theorem dX12_publish_38 : decode cX12_publish 38 = .ok (.aload_n 0, 1) := by decide +kernel
theorem dX12_publish_39 : decode cX12_publish 39 = .ok (.getfield 93, 3) := by decide +kernel
theorem dX12_publish_42 : decode cX12_publish 42 = .ok (.aload_n 0, 1) := by decide +kernel
theorem dX12_publish_43 : decode cX12_publish 43 = .ok (.getfield 433, 3) := by decide +kernel
theorem dX12_publish_46 : decode cX12_publish 46 = .ok (.aload_n 0, 1) := by decide +kernel
theorem dX12_publish_47 : decode cX12_publish 47 = .ok (.getfield 130, 3) := by decide +kernel
theorem dX12_publish_50 : decode cX12_publish 50 = .ok (.iastore, 1) := by decide +kernel
theorem dX12_publish_51 : decode cX12_publish 51 = .ok (.iconst 0, 1) := by decide +kernel
theorem dX12_publish_52 : decode cX12_publish 52 = .ok (.istore_n 1, 1) := by decide +kernel
theorem dX12_publish_53 : decode cX12_publish 53 = .ok (.iload_n 1, 1) := by decide +kernel
theorem dX12_publish_54 : decode cX12_publish 54 = .ok (.aload_n 0, 1) := by decide +kernel
theorem dX12_publish_55 : decode cX12_publish 55 = .ok (.getfield 130, 3) := by decide +kernel
theorem dX12_publish_58 : decode cX12_publish 58 = .ok (.if_icmp .ge 28, 3) := by decide +kernel
theorem dX12_publish_61 : decode cX12_publish 61 = .ok (.aload_n 0, 1) := by decide +kernel
theorem dX12_publish_62 : decode cX12_publish 62 = .ok (.getfield 96, 3) := by decide +kernel
theorem dX12_publish_65 : decode cX12_publish 65 = .ok (.bipush 12, 2) := by decide +kernel
theorem dX12_publish_67 : decode cX12_publish 67 = .ok (.aload_n 0, 1) := by decide +kernel
theorem dX12_publish_68 : decode cX12_publish 68 = .ok (.getfield 433, 3) := by decide +kernel
theorem dX12_publish_71 : decode cX12_publish 71 = .ok (.imul, 1) := by decide +kernel
theorem dX12_publish_72 : decode cX12_publish 72 = .ok (.iload_n 1, 1) := by decide +kernel
theorem dX12_publish_73 : decode cX12_publish 73 = .ok (.iadd, 1) := by decide +kernel
theorem dX12_publish_74 : decode cX12_publish 74 = .ok (.aload_n 0, 1) := by decide +kernel
theorem dX12_publish_75 : decode cX12_publish 75 = .ok (.iload_n 1, 1) := by decide +kernel
theorem dX12_publish_76 : decode cX12_publish 76 = .ok (.invokevirtual 430, 3) := by decide +kernel
