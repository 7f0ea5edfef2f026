theorem dX0_init_0 : decode cX0_init 0 = .ok (.aload_n 0, 1) := by decide +kernel
theorem dX0_init_1 : decode cX0_init 1 = .ok (.invokespecial 3, 3) := by decide +kernel
theorem dX0_init_4 : decode cX0_init 4 = .ok (.aload_n 0, 1) := by decide +kernel
theorem dX0_init_5 : decode cX0_init 5 = .ok (.new 9, 3) := by decide +kernel
theorem dX0_init_8 : decode cX0_init 8 = .ok (.dup, 1) := by decide +kernel
theorem dX0_init_9 : decode cX0_init 9 = .ok (.invokespecial 11, 3) := by decide +kernel
theorem dX0_init_12 : decode cX0_init 12 = .ok (.putfield 12, 3) := by decide +kernel
theorem dX0_init_15 : decode cX0_init 15 = .ok (.aload_n 0, 1) := by decide +kernel
theorem dX0_init_16 : decode cX0_init 16 = .ok (.bipush 60, 2) := by decide +kernel
theorem dX0_init_18 : decode cX0_init 18 = .ok (.putfield 18, 3) := by decide +kernel
theorem dX0_init_21 : decode cX0_init 21 = .ok (.aload_n 0, 1) := by decide +kernel
theorem dX0_init_22 : decode cX0_init 22 = .ok (.aload_n 1, 1) := by decide +kernel
theorem dX0_init_23 : decode cX0_init 23 = .ok (.putfield 22, 3) := by decide +kernel
theorem dX0_init_26 : decode cX0_init 26 = .ok (.aload_n 0, 1) := by decide +kernel
theorem dX0_init_27 : decode cX0_init 27 = .ok (.new 26, 3) := by decide +kernel
theorem dX0_init_30 : decode cX0_init 30 = .ok (.dup, 1) := by decide +kernel
theorem dX0_init_31 : decode cX0_init 31 = .ok (.aload_n 1, 1) := by decide +kernel
theorem dX0_init_32 : decode cX0_init 32 = .ok (.invokespecial 28, 3) := by decide +kernel
theorem dX0_init_35 : decode cX0_init 35 = .ok (.putfield 31, 3) := by decide +kernel
theorem dX0_init_38 : decode cX0_init 38 = .ok (.return_, 1) := by decide +kernel
theorem dX0_setWindow_0 : decode cX0_setWindow 0 = .ok (.aload_n 0, 1) := by decide +kernel
theorem dX0_setWindow_1 : decode cX0_setWindow 1 = .ok (.iload_n 1, 1) := by decide +kernel
theorem dX0_setWindow_2 : decode cX0_setWindow 2 = .ok (.putfield 18, 3) := by decide +kernel
theorem dX0_setWindow_5 : decode cX0_setWindow 5 = .ok (.aload_n 0, 1) := by decide +kernel
theorem dX0_setWindow_6 : decode cX0_setWindow 6 = .ok (.iconst 0, 1) := by decide +kernel
theorem dX0_setWindow_7 : decode cX0_setWindow 7 = .ok (.putfield 35, 3) := by decide +kernel
theorem dX0_setWindow_10 : decode cX0_setWindow 10 = .ok (.return_, 1) := by decide +kernel
theorem dX0_refresh_0 : decode cX0_refresh 0 = .ok (.aload_n 0, 1) := by decide +kernel
theorem dX0_refresh_1 : decode cX0_refresh 1 = .ok (.getfield 35, 3) := by decide +kernel
theorem dX0_refresh_4 : decode cX0_refresh 4 = .ok (.ifCond .eq 4, 3) := by decide +kernel
theorem dX0_refresh_7 : decode cX0_refresh 7 = .ok (.return_, 1) := by decide +kernel
theorem dX0_refresh_8 : decode cX0_refresh 8 = .ok (.aload_n 0, 1) := by decide +kernel
theorem dX0_refresh_9 : decode cX0_refresh 9 = .ok (.iconst 1, 1) := by decide +kernel
theorem dX0_refresh_10 : decode cX0_refresh 10 = .ok (.putfield 35, 3) := by decide +kernel
theorem dX0_refresh_13 : decode cX0_refresh 13 = .ok (.iconst 0, 1) := by decide +kernel
theorem dX0_refresh_14 : decode cX0_refresh 14 = .ok (.istore_n 1, 1) := by decide +kernel
theorem dX0_refresh_15 : decode cX0_refresh 15 = .ok (.iload_n 1, 1) := by decide +kernel
theorem dX0_refresh_16 : decode cX0_refresh 16 = .ok (.aload_n 0, 1) := by decide +kernel
theorem dX0_refresh_17 : decode cX0_refresh 17 = .ok (.getfield 22, 3) := by decide +kernel
theorem dX0_refresh_20 : decode cX0_refresh 20 = .ok (.getfield 39, 3) := by decide +kernel
theorem dX0_refresh_23 : decode cX0_refresh 23 = .ok (.if_icmp .ge 14, 3) := by decide +kernel
theorem dX0_refresh_26 : decode cX0_refresh 26 = .ok (.aload_n 0, 1) := by decide +kernel
theorem dX0_refresh_27 : decode cX0_refresh 27 = .ok (.iload_n 1, 1) := by decide +kernel
theorem dX0_refresh_28 : decode cX0_refresh 28 = .ok (.invokevirtual 44, 3) := by decide +kernel
theorem dX0_refresh_31 : decode cX0_refresh 31 = .ok (.iinc 1 1, 3) := by decide +kernel
theorem dX0_refresh_34 : decode cX0_refresh 34 = .ok (.goto (-19), 3) := by decide +kernel
theorem dX0_refresh_37 : decode cX0_refresh 37 = .ok (.iconst 0, 1) := by decide +kernel
theorem dX0_refresh_38 : decode cX0_refresh 38 = .ok (.istore_n 1, 1) := by decide +kernel
theorem dX0_refresh_39 : decode cX0_refresh 39 = .ok (.iload_n 1, 1) := by decide +kernel
theorem dX0_refresh_40 : decode cX0_refresh 40 = .ok (.aload_n 0, 1) := by decide +kernel
theorem dX0_refresh_41 : decode cX0_refresh 41 = .ok (.getfield 22, 3) := by decide +kernel
theorem dX0_refresh_44 : decode cX0_refresh 44 = .ok (.getfield 39, 3) := by decide +kernel
theorem dX0_refresh_47 : decode cX0_refresh 47 = .ok (.if_icmp .ge 38, 3) := by decide +kernel
theorem dX0_refresh_50 : decode cX0_refresh 50 = .ok (.aload_n 0, 1) := by decide +kernel
theorem dX0_refresh_51 : decode cX0_refresh 51 = .ok (.getfield 22, 3) := by decide +kernel
theorem dX0_refresh_54 : decode cX0_refresh 54 = .ok (.iload_n 1, 1) := by decide +kernel
theorem dX0_refresh_55 : decode cX0_refresh 55 = .ok (.invokevirtual 48, 3) := by decide +kernel
theorem dX0_refresh_58 : decode cX0_refresh 58 = .ok (.astore_n 2, 1) := by decide +kernel
theorem dX0_refresh_59 : decode cX0_refresh 59 = .ok (.aload_n 2, 1) := by decide +kernel
theorem dX0_refresh_60 : decode cX0_refresh 60 = .ok (.ifnull 19, 3) := by decide +kernel
theorem dX0_refresh_63 : decode cX0_refresh 63 = .ok (.aload_n 2, 1) := by decide +kernel
theorem dX0_refresh_64 : decode cX0_refresh 64 = .ok (.aload_n 0, 1) := by decide +kernel
theorem dX0_refresh_65 : decode cX0_refresh 65 = .ok (.getfield 31, 3) := by decide +kernel
theorem dX0_refresh_68 : decode cX0_refresh 68 = .ok (.iload_n 1, 1) := by decide +kernel
theorem dX0_refresh_69 : decode cX0_refresh 69 = .ok (.aload_n 0, 1) := by decide +kernel
theorem dX0_refresh_70 : decode cX0_refresh 70 = .ok (.getfield 18, 3) := by decide +kernel
theorem dX0_refresh_73 : decode cX0_refresh 73 = .ok (.invokevirtual 52, 3) := by decide +kernel
theorem dX0_refresh_76 : decode cX0_refresh 76 = .ok (.putfield 56, 3) := by decide +kernel
theorem dX0_refresh_79 : decode cX0_refresh 79 = .ok (.iinc 1 1, 3) := by decide +kernel
theorem dX0_refresh_82 : decode cX0_refresh 82 = .ok (.goto (-43), 3) := by decide +kernel
theorem dX0_refresh_85 : decode cX0_refresh 85 = .ok (.iconst 0, 1) := by decide +kernel
theorem dX0_refresh_86 : decode cX0_refresh 86 = .ok (.istore_n 1, 1) := by decide +kernel
theorem dX0_refresh_87 : decode cX0_refresh 87 = .ok (.iload_n 1, 1) := by decide +kernel
theorem dX0_refresh_88 : decode cX0_refresh 88 = .ok (.aload_n 0, 1) := by decide +kernel
theorem dX0_refresh_89 : decode cX0_refresh 89 = .ok (.getfield 22, 3) := by decide +kernel
theorem dX0_refresh_92 : decode cX0_refresh 92 = .ok (.getfield 39, 3) := by decide +kernel
theorem dX0_refresh_95 : decode cX0_refresh 95 = .ok (.if_icmp .ge 61, 3) := by decide +kernel
theorem dX0_refresh_98 : decode cX0_refresh 98 = .ok (.iload_n 1, 1) := by decide +kernel
theorem dX0_refresh_99 : decode cX0_refresh 99 = .ok (.iconst 1, 1) := by decide +kernel
theorem dX0_refresh_100 : decode cX0_refresh 100 = .ok (.iadd, 1) := by decide +kernel
theorem dX0_refresh_101 : decode cX0_refresh 101 = .ok (.istore_n 2, 1) := by decide +kernel
theorem dX0_refresh_102 : decode cX0_refresh 102 = .ok (.iload_n 2, 1) := by decide +kernel
theorem dX0_refresh_103 : decode cX0_refresh 103 = .ok (.aload_n 0, 1) := by decide +kernel
theorem dX0_refresh_104 : decode cX0_refresh 104 = .ok (.getfield 22, 3) := by decide +kernel
theorem dX0_refresh_107 : decode cX0_refresh 107 = .ok (.getfield 39, 3) := by decide +kernel
theorem dX0_refresh_110 : decode cX0_refresh 110 = .ok (.if_icmp .ge 40, 3) := by decide +kernel
theorem dX0_refresh_113 : decode cX0_refresh 113 = .ok (.iconst 0, 1) := by decide +kernel
theorem dX0_refresh_114 : decode cX0_refresh 114 = .ok (.istore_n 3, 1) := by decide +kernel
theorem dX0_refresh_115 : decode cX0_refresh 115 = .ok (.iload_n 3, 1) := by decide +kernel
theorem dX0_refresh_116 : decode cX0_refresh 116 = .ok (.iconst 3, 1) := by decide +kernel
theorem dX0_refresh_117 : decode cX0_refresh 117 = .ok (.if_icmp .ge 27, 3) := by decide +kernel
theorem dX0_refresh_120 : decode cX0_refresh 120 = .ok (.aload_n 0, 1) := by decide +kernel
theorem dX0_refresh_121 : decode cX0_refresh 121 = .ok (.getfield 12, 3) := by decide +kernel
theorem dX0_refresh_124 : decode cX0_refresh 124 = .ok (.aload_n 0, 1) := by decide +kernel
theorem dX0_refresh_125 : decode cX0_refresh 125 = .ok (.getfield 22, 3) := by decide +kernel
theorem dX0_refresh_128 : decode cX0_refresh 128 = .ok (.iload_n 1, 1) := by decide +kernel
theorem dX0_refresh_129 : decode cX0_refresh 129 = .ok (.iload_n 2, 1) := by decide +kernel
theorem dX0_refresh_130 : decode cX0_refresh 130 = .ok (.iload_n 3, 1) := by decide +kernel
theorem dX0_refresh_131 : decode cX0_refresh 131 = .ok (.aload_n 0, 1) := by decide +kernel
theorem dX0_refresh_132 : decode cX0_refresh 132 = .ok (.getfield 18, 3) := by decide +kernel
theorem dX0_refresh_135 : decode cX0_refresh 135 = .ok (.invokevirtual 62, 3) := by decide +kernel
theorem dX0_refresh_138 : decode cX0_refresh 138 = .ok (.iinc 3 1, 3) := by decide +kernel
theorem dX0_refresh_141 : decode cX0_refresh 141 = .ok (.goto (-26), 3) := by decide +kernel
theorem dX0_refresh_144 : decode cX0_refresh 144 = .ok (.iinc 2 1, 3) := by decide +kernel
theorem dX0_refresh_147 : decode cX0_refresh 147 = .ok (.goto (-45), 3) := by decide +kernel
theorem dX0_refresh_150 : decode cX0_refresh 150 = .ok (.iinc 1 1, 3) := by decide +kernel
theorem dX0_refresh_153 : decode cX0_refresh 153 = .ok (.goto (-66), 3) := by decide +kernel
theorem dX0_refresh_156 : decode cX0_refresh 156 = .ok (.iconst 0, 1) := by decide +kernel
theorem dX0_refresh_157 : decode cX0_refresh 157 = .ok (.istore_n 1, 1) := by decide +kernel
theorem dX0_refresh_158 : decode cX0_refresh 158 = .ok (.iload_n 1, 1) := by decide +kernel
theorem dX0_refresh_159 : decode cX0_refresh 159 = .ok (.aload_n 0, 1) := by decide +kernel
theorem dX0_refresh_160 : decode cX0_refresh 160 = .ok (.getfield 22, 3) := by decide +kernel
theorem dX0_refresh_163 : decode cX0_refresh 163 = .ok (.getfield 39, 3) := by decide +kernel
theorem dX0_refresh_166 : decode cX0_refresh 166 = .ok (.if_icmp .ge 14, 3) := by decide +kernel
theorem dX0_refresh_169 : decode cX0_refresh 169 = .ok (.aload_n 0, 1) := by decide +kernel
theorem dX0_refresh_170 : decode cX0_refresh 170 = .ok (.iload_n 1, 1) := by decide +kernel
theorem dX0_refresh_171 : decode cX0_refresh 171 = .ok (.invokevirtual 66, 3) := by decide +kernel
theorem dX0_refresh_174 : decode cX0_refresh 174 = .ok (.iinc 1 1, 3) := by decide +kernel
theorem dX0_refresh_177 : decode cX0_refresh 177 = .ok (.goto (-19), 3) := by decide +kernel
theorem dX0_refresh_180 : decode cX0_refresh 180 = .ok (.return_, 1) := by decide +kernel
theorem dX0_clearContacts_0 : decode cX0_clearContacts 0 = .ok (.aload_n 0, 1) := by decide +kernel
theorem dX0_clearContacts_1 : decode cX0_clearContacts 1 = .ok (.getfield 22, 3) := by decide +kernel
theorem dX0_clearContacts_4 : decode cX0_clearContacts 4 = .ok (.iload_n 1, 1) := by decide +kernel
theorem dX0_clearContacts_5 : decode cX0_clearContacts 5 = .ok (.invokevirtual 48, 3) := by decide +kernel
theorem dX0_clearContacts_8 : decode cX0_clearContacts 8 = .ok (.astore_n 2, 1) := by decide +kernel
theorem dX0_clearContacts_9 : decode cX0_clearContacts 9 = .ok (.iconst 0, 1) := by decide +kernel
theorem dX0_clearContacts_10 : decode cX0_clearContacts 10 = .ok (.istore_n 3, 1) := by decide +kernel
theorem dX0_clearContacts_11 : decode cX0_clearContacts 11 = .ok (.iload_n 3, 1) := by decide +kernel
theorem dX0_clearContacts_12 : decode cX0_clearContacts 12 = .ok (.iconst 3, 1) := by decide +kernel
theorem dX0_clearContacts_13 : decode cX0_clearContacts 13 = .ok (.if_icmp .ge 81, 3) := by decide +kernel
theorem dX0_clearContacts_16 : decode cX0_clearContacts 16 = .ok (.aload_n 2, 1) := by decide +kernel
theorem dX0_clearContacts_17 : decode cX0_clearContacts 17 = .ok (.ifnull 77, 3) := by decide +kernel
theorem dX0_clearContacts_20 : decode cX0_clearContacts 20 = .ok (.aload_n 2, 1) := by decide +kernel
theorem dX0_clearContacts_21 : decode cX0_clearContacts 21 = .ok (.iload_n 3, 1) := by decide +kernel
theorem dX0_clearContacts_22 : decode cX0_clearContacts 22 = .ok (.invokevirtual 69, 3) := by decide +kernel
theorem dX0_clearContacts_25 : decode cX0_clearContacts 25 = .ok (.astore 4, 2) := by decide +kernel
theorem dX0_clearContacts_27 : decode cX0_clearContacts 27 = .ok (.iconst 0, 1) := by decide +kernel
theorem dX0_clearContacts_28 : decode cX0_clearContacts 28 = .ok (.istore 5, 2) := by decide +kernel
theorem dX0_clearContacts_30 : decode cX0_clearContacts 30 = .ok (.aload 4, 2) := by decide +kernel
theorem dX0_clearContacts_32 : decode cX0_clearContacts 32 = .ok (.ifnull 56, 3) := by decide +kernel
theorem dX0_clearContacts_35 : decode cX0_clearContacts 35 = .ok (.iload 5, 2) := by decide +kernel
theorem dX0_clearContacts_37 : decode cX0_clearContacts 37 = .ok (.aload 4, 2) := by decide +kernel
theorem dX0_clearContacts_39 : decode cX0_clearContacts 39 = .ok (.getfield 73, 3) := by decide +kernel
theorem dX0_clearContacts_42 : decode cX0_clearContacts 42 = .ok (.if_icmp .ge 46, 3) := by decide +kernel
theorem dX0_clearContacts_45 : decode cX0_clearContacts 45 = .ok (.aload 4, 2) := by decide +kernel
theorem dX0_clearContacts_47 : decode cX0_clearContacts 47 = .ok (.iload 5, 2) := by decide +kernel
theorem dX0_clearContacts_49 : decode cX0_clearContacts 49 = .ok (.invokevirtual 76, 3) := by decide +kernel
theorem dX0_clearContacts_52 : decode cX0_clearContacts 52 = .ok (.astore 6, 2) := by decide +kernel
theorem dX0_clearContacts_54 : decode cX0_clearContacts 54 = .ok (.aload 6, 2) := by decide +kernel
theorem dX0_clearContacts_56 : decode cX0_clearContacts 56 = .ok (.ifnull 26, 3) := by decide +kernel
theorem dX0_clearContacts_59 : decode cX0_clearContacts 59 = .ok (.aload 6, 2) := by decide +kernel
theorem dX0_clearContacts_61 : decode cX0_clearContacts 61 = .ok (.aload_n 0, 1) := by decide +kernel
theorem dX0_clearContacts_62 : decode cX0_clearContacts 62 = .ok (.getfield 22, 3) := by decide +kernel
theorem dX0_clearContacts_65 : decode cX0_clearContacts 65 = .ok (.aload 6, 2) := by decide +kernel
theorem dX0_clearContacts_67 : decode cX0_clearContacts 67 = .ok (.getfield 80, 3) := by decide +kernel
theorem dX0_clearContacts_70 : decode cX0_clearContacts 70 = .ok (.invokevirtual 85, 3) := by decide +kernel
theorem dX0_clearContacts_73 : decode cX0_clearContacts 73 = .ok (.putfield 89, 3) := by decide +kernel
theorem dX0_clearContacts_76 : decode cX0_clearContacts 76 = .ok (.aload 6, 2) := by decide +kernel
theorem dX0_clearContacts_78 : decode cX0_clearContacts 78 = .ok (.iconst (-1), 1) := by decide +kernel
theorem dX0_clearContacts_79 : decode cX0_clearContacts 79 = .ok (.putfield 92, 3) := by decide +kernel
theorem dX0_clearContacts_82 : decode cX0_clearContacts 82 = .ok (.iinc 5 1, 3) := by decide +kernel
theorem dX0_clearContacts_85 : decode cX0_clearContacts 85 = .ok (.goto (-55), 3) := by decide +kernel
theorem dX0_clearContacts_88 : decode cX0_clearContacts 88 = .ok (.iinc 3 1, 3) := by decide +kernel
theorem dX0_clearContacts_91 : decode cX0_clearContacts 91 = .ok (.goto (-80), 3) := by decide +kernel
theorem dX0_clearContacts_94 : decode cX0_clearContacts 94 = .ok (.return_, 1) := by decide +kernel
theorem dX0_explainContacts_0 : decode cX0_explainContacts 0 = .ok (.aload_n 0, 1) := by decide +kernel
theorem dX0_explainContacts_1 : decode cX0_explainContacts 1 = .ok (.getfield 22, 3) := by decide +kernel
theorem dX0_explainContacts_4 : decode cX0_explainContacts 4 = .ok (.iload_n 1, 1) := by decide +kernel
theorem dX0_explainContacts_5 : decode cX0_explainContacts 5 = .ok (.invokevirtual 48, 3) := by decide +kernel
theorem dX0_explainContacts_8 : decode cX0_explainContacts 8 = .ok (.astore_n 2, 1) := by decide +kernel
theorem dX0_explainContacts_9 : decode cX0_explainContacts 9 = .ok (.iconst 0, 1) := by decide +kernel
theorem dX0_explainContacts_10 : decode cX0_explainContacts 10 = .ok (.istore_n 3, 1) := by decide +kernel
theorem dX0_explainContacts_11 : decode cX0_explainContacts 11 = .ok (.iload_n 3, 1) := by decide +kernel
theorem dX0_explainContacts_12 : decode cX0_explainContacts 12 = .ok (.iconst 3, 1) := by decide +kernel
theorem dX0_explainContacts_13 : decode cX0_explainContacts 13 = .ok (.if_icmp .ge 119, 3) := by decide +kernel
theorem dX0_explainContacts_16 : decode cX0_explainContacts 16 = .ok (.aload_n 2, 1) := by decide +kernel
theorem dX0_explainContacts_17 : decode cX0_explainContacts 17 = .ok (.ifnull 115, 3) := by decide +kernel
theorem dX0_explainContacts_20 : decode cX0_explainContacts 20 = .ok (.aload_n 2, 1) := by decide +kernel
theorem dX0_explainContacts_21 : decode cX0_explainContacts 21 = .ok (.iload_n 3, 1) := by decide +kernel
theorem dX0_explainContacts_22 : decode cX0_explainContacts 22 = .ok (.invokevirtual 69, 3) := by decide +kernel
theorem dX0_explainContacts_25 : decode cX0_explainContacts 25 = .ok (.astore 4, 2) := by decide +kernel
theorem dX0_explainContacts_27 : decode cX0_explainContacts 27 = .ok (.iconst 0, 1) := by decide +kernel
theorem dX0_explainContacts_28 : decode cX0_explainContacts 28 = .ok (.istore 5, 2) := by decide +kernel
theorem dX0_explainContacts_30 : decode cX0_explainContacts 30 = .ok (.aload 4, 2) := by decide +kernel
theorem dX0_explainContacts_32 : decode cX0_explainContacts 32 = .ok (.ifnull 94, 3) := by decide +kernel
theorem dX0_explainContacts_35 : decode cX0_explainContacts 35 = .ok (.iload 5, 2) := by decide +kernel
theorem dX0_explainContacts_37 : decode cX0_explainContacts 37 = .ok (.aload 4, 2) := by decide +kernel
theorem dX0_explainContacts_39 : decode cX0_explainContacts 39 = .ok (.getfield 73, 3) := by decide +kernel
theorem dX0_explainContacts_42 : decode cX0_explainContacts 42 = .ok (.if_icmp .ge 84, 3) := by decide +kernel
theorem dX0_explainContacts_45 : decode cX0_explainContacts 45 = .ok (.aload 4, 2) := by decide +kernel
theorem dX0_explainContacts_47 : decode cX0_explainContacts 47 = .ok (.iload 5, 2) := by decide +kernel
theorem dX0_explainContacts_49 : decode cX0_explainContacts 49 = .ok (.invokevirtual 76, 3) := by decide +kernel
theorem dX0_explainContacts_52 : decode cX0_explainContacts 52 = .ok (.astore 6, 2) := by decide +kernel
theorem dX0_explainContacts_54 : decode cX0_explainContacts 54 = .ok (.aload 6, 2) := by decide +kernel
theorem dX0_explainContacts_56 : decode cX0_explainContacts 56 = .ok (.ifnull 64, 3) := by decide +kernel
theorem dX0_explainContacts_59 : decode cX0_explainContacts 59 = .ok (.aload 6, 2) := by decide +kernel
theorem dX0_explainContacts_61 : decode cX0_explainContacts 61 = .ok (.aload 6, 2) := by decide +kernel
theorem dX0_explainContacts_63 : decode cX0_explainContacts 63 = .ok (.invokestatic 95, 3) := by decide +kernel
theorem dX0_explainContacts_66 : decode cX0_explainContacts 66 = .ok (.ifCond .eq 14, 3) := by decide +kernel
theorem dX0_explainContacts_69 : decode cX0_explainContacts 69 = .ok (.aload_n 0, 1) := by decide +kernel
theorem dX0_explainContacts_70 : decode cX0_explainContacts 70 = .ok (.aload 6, 2) := by decide +kernel
theorem dX0_explainContacts_72 : decode cX0_explainContacts 72 = .ok (.iload_n 1, 1) := by decide +kernel
theorem dX0_explainContacts_73 : decode cX0_explainContacts 73 = .ok (.iload_n 3, 1) := by decide +kernel
theorem dX0_explainContacts_74 : decode cX0_explainContacts 74 = .ok (.invokevirtual 99, 3) := by decide +kernel
theorem dX0_explainContacts_77 : decode cX0_explainContacts 77 = .ok (.goto 4, 3) := by decide +kernel
theorem dX0_explainContacts_80 : decode cX0_explainContacts 80 = .ok (.iconst (-1), 1) := by decide +kernel
theorem dX0_explainContacts_81 : decode cX0_explainContacts 81 = .ok (.putfield 103, 3) := by decide +kernel
theorem dX0_explainContacts_84 : decode cX0_explainContacts 84 = .ok (.aload 6, 2) := by decide +kernel
theorem dX0_explainContacts_86 : decode cX0_explainContacts 86 = .ok (.aload 6, 2) := by decide +kernel
theorem dX0_explainContacts_88 : decode cX0_explainContacts 88 = .ok (.invokevirtual 106, 3) := by decide +kernel
theorem dX0_explainContacts_91 : decode cX0_explainContacts 91 = .ok (.ifCond .eq 19, 3) := by decide +kernel
theorem dX0_explainContacts_94 : decode cX0_explainContacts 94 = .ok (.aload 6, 2) := by decide +kernel
theorem dX0_explainContacts_96 : decode cX0_explainContacts 96 = .ok (.aload 4, 2) := by decide +kernel
theorem dX0_explainContacts_98 : decode cX0_explainContacts 98 = .ok (.iload 5, 2) := by decide +kernel
theorem dX0_explainContacts_100 : decode cX0_explainContacts 100 = .ok (.invokestatic 110, 3) := by decide +kernel
theorem dX0_explainContacts_103 : decode cX0_explainContacts 103 = .ok (.ifCond .eq 7, 3) := by decide +kernel
theorem dX0_explainContacts_106 : decode cX0_explainContacts 106 = .ok (.iconst 1, 1) := by decide +kernel
theorem dX0_explainContacts_107 : decode cX0_explainContacts 107 = .ok (.goto 10, 3) := by decide +kernel
theorem dX0_explainContacts_110 : decode cX0_explainContacts 110 = .ok (.aload_n 0, 1) := by decide +kernel
theorem dX0_explainContacts_111 : decode cX0_explainContacts 111 = .ok (.aload 6, 2) := by decide +kernel
theorem dX0_explainContacts_113 : decode cX0_explainContacts 113 = .ok (.iload_n 1, 1) := by decide +kernel
theorem dX0_explainContacts_114 : decode cX0_explainContacts 114 = .ok (.invokevirtual 114, 3) := by decide +kernel
theorem dX0_explainContacts_117 : decode cX0_explainContacts 117 = .ok (.putfield 118, 3) := by decide +kernel
theorem dX0_explainContacts_120 : decode cX0_explainContacts 120 = .ok (.iinc 5 1, 3) := by decide +kernel
theorem dX0_explainContacts_123 : decode cX0_explainContacts 123 = .ok (.goto (-93), 3) := by decide +kernel
theorem dX0_explainContacts_126 : decode cX0_explainContacts 126 = .ok (.iinc 3 1, 3) := by decide +kernel
theorem dX0_explainContacts_129 : decode cX0_explainContacts 129 = .ok (.goto (-118), 3) := by decide +kernel
theorem dX0_explainContacts_132 : decode cX0_explainContacts 132 = .ok (.return_, 1) := by decide +kernel
theorem dX0_mayBeMisheard_0 : decode cX0_mayBeMisheard 0 = .ok (.aload_n 0, 1) := by decide +kernel
theorem dX0_mayBeMisheard_1 : decode cX0_mayBeMisheard 1 = .ok (.getfield 89, 3) := by decide +kernel
theorem dX0_mayBeMisheard_4 : decode cX0_mayBeMisheard 4 = .ok (.iconst (-1), 1) := by decide +kernel
theorem dX0_mayBeMisheard_5 : decode cX0_mayBeMisheard 5 = .ok (.if_icmp .ne 14, 3) := by decide +kernel
theorem dX0_mayBeMisheard_8 : decode cX0_mayBeMisheard 8 = .ok (.aload_n 0, 1) := by decide +kernel
theorem dX0_mayBeMisheard_9 : decode cX0_mayBeMisheard 9 = .ok (.invokevirtual 121, 3) := by decide +kernel
theorem dX0_mayBeMisheard_12 : decode cX0_mayBeMisheard 12 = .ok (.ifCond .eq 7, 3) := by decide +kernel
theorem dX0_mayBeMisheard_15 : decode cX0_mayBeMisheard 15 = .ok (.iconst 1, 1) := by decide +kernel
theorem dX0_mayBeMisheard_16 : decode cX0_mayBeMisheard 16 = .ok (.goto 4, 3) := by decide +kernel
theorem dX0_mayBeMisheard_19 : decode cX0_mayBeMisheard 19 = .ok (.iconst 0, 1) := by decide +kernel
theorem dX0_mayBeMisheard_20 : decode cX0_mayBeMisheard 20 = .ok (.ireturn, 1) := by decide +kernel
theorem dX0_isDupe_0 : decode cX0_isDupe 0 = .ok (.iconst 0, 1) := by decide +kernel
theorem dX0_isDupe_1 : decode cX0_isDupe 1 = .ok (.istore_n 3, 1) := by decide +kernel
theorem dX0_isDupe_2 : decode cX0_isDupe 2 = .ok (.iload_n 3, 1) := by decide +kernel
theorem dX0_isDupe_3 : decode cX0_isDupe 3 = .ok (.aload_n 1, 1) := by decide +kernel
theorem dX0_isDupe_4 : decode cX0_isDupe 4 = .ok (.getfield 73, 3) := by decide +kernel
theorem dX0_isDupe_7 : decode cX0_isDupe 7 = .ok (.if_icmp .ge 69, 3) := by decide +kernel
theorem dX0_isDupe_10 : decode cX0_isDupe 10 = .ok (.aload_n 1, 1) := by decide +kernel
theorem dX0_isDupe_11 : decode cX0_isDupe 11 = .ok (.iload_n 3, 1) := by decide +kernel
theorem dX0_isDupe_12 : decode cX0_isDupe 12 = .ok (.invokevirtual 76, 3) := by decide +kernel
theorem dX0_isDupe_15 : decode cX0_isDupe 15 = .ok (.astore 4, 2) := by decide +kernel
theorem dX0_isDupe_17 : decode cX0_isDupe 17 = .ok (.aload 4, 2) := by decide +kernel
theorem dX0_isDupe_19 : decode cX0_isDupe 19 = .ok (.ifnull 51, 3) := by decide +kernel
theorem dX0_isDupe_22 : decode cX0_isDupe 22 = .ok (.aload 4, 2) := by decide +kernel
theorem dX0_isDupe_24 : decode cX0_isDupe 24 = .ok (.getfield 92, 3) := by decide +kernel
theorem dX0_isDupe_27 : decode cX0_isDupe 27 = .ok (.aload_n 0, 1) := by decide +kernel
theorem dX0_isDupe_28 : decode cX0_isDupe 28 = .ok (.getfield 92, 3) := by decide +kernel
theorem dX0_isDupe_31 : decode cX0_isDupe 31 = .ok (.if_icmp .eq 6, 3) := by decide +kernel
theorem dX0_isDupe_34 : decode cX0_isDupe 34 = .ok (.goto 36, 3) := by decide +kernel
theorem dX0_isDupe_37 : decode cX0_isDupe 37 = .ok (.aload 4, 2) := by decide +kernel
theorem dX0_isDupe_39 : decode cX0_isDupe 39 = .ok (.getfield 124, 3) := by decide +kernel
theorem dX0_isDupe_42 : decode cX0_isDupe 42 = .ok (.aload_n 0, 1) := by decide +kernel
theorem dX0_isDupe_43 : decode cX0_isDupe 43 = .ok (.getfield 124, 3) := by decide +kernel
theorem dX0_isDupe_46 : decode cX0_isDupe 46 = .ok (.lcmp, 1) := by decide +kernel
theorem dX0_isDupe_47 : decode cX0_isDupe 47 = .ok (.ifCond .lt 21, 3) := by decide +kernel
theorem dX0_isDupe_50 : decode cX0_isDupe 50 = .ok (.aload 4, 2) := by decide +kernel
theorem dX0_isDupe_52 : decode cX0_isDupe 52 = .ok (.getfield 124, 3) := by decide +kernel
theorem dX0_isDupe_55 : decode cX0_isDupe 55 = .ok (.aload_n 0, 1) := by decide +kernel
theorem dX0_isDupe_56 : decode cX0_isDupe 56 = .ok (.getfield 124, 3) := by decide +kernel
theorem dX0_isDupe_59 : decode cX0_isDupe 59 = .ok (.lcmp, 1) := by decide +kernel
theorem dX0_isDupe_60 : decode cX0_isDupe 60 = .ok (.ifCond .ne 10, 3) := by decide +kernel
theorem dX0_isDupe_63 : decode cX0_isDupe 63 = .ok (.iload_n 3, 1) := by decide +kernel
theorem dX0_isDupe_64 : decode cX0_isDupe 64 = .ok (.iload_n 2, 1) := by decide +kernel
theorem dX0_isDupe_65 : decode cX0_isDupe 65 = .ok (.if_icmp .ge 5, 3) := by decide +kernel
theorem dX0_isDupe_68 : decode cX0_isDupe 68 = .ok (.iconst 1, 1) := by decide +kernel
theorem dX0_isDupe_69 : decode cX0_isDupe 69 = .ok (.ireturn, 1) := by decide +kernel
theorem dX0_isDupe_70 : decode cX0_isDupe 70 = .ok (.iinc 3 1, 3) := by decide +kernel
theorem dX0_isDupe_73 : decode cX0_isDupe 73 = .ok (.goto (-71), 3) := by decide +kernel
theorem dX0_isDupe_76 : decode cX0_isDupe 76 = .ok (.iconst 0, 1) := by decide +kernel
theorem dX0_isDupe_77 : decode cX0_isDupe 77 = .ok (.ireturn, 1) := by decide +kernel
theorem dX0_explain_0 : decode cX0_explain 0 = .ok (.aload_n 1, 1) := by decide +kernel
theorem dX0_explain_1 : decode cX0_explain 1 = .ok (.invokevirtual 106, 3) := by decide +kernel
theorem dX0_explain_4 : decode cX0_explain 4 = .ok (.ifCond .eq 5, 3) := by decide +kernel
theorem dX0_explain_7 : decode cX0_explain 7 = .ok (.iconst 0, 1) := by decide +kernel
theorem dX0_explain_8 : decode cX0_explain 8 = .ok (.ireturn, 1) := by decide +kernel
theorem dX0_explain_9 : decode cX0_explain 9 = .ok (.aload_n 1, 1) := by decide +kernel
theorem dX0_explain_10 : decode cX0_explain 10 = .ok (.invokevirtual 121, 3) := by decide +kernel
theorem dX0_explain_13 : decode cX0_explain 13 = .ok (.ifCond .ne 5, 3) := by decide +kernel
theorem dX0_explain_16 : decode cX0_explain 16 = .ok (.iconst 2, 1) := by decide +kernel
theorem dX0_explain_17 : decode cX0_explain 17 = .ok (.ireturn, 1) := by decide +kernel
theorem dX0_explain_18 : decode cX0_explain 18 = .ok (.aload_n 1, 1) := by decide +kernel
theorem dX0_explain_19 : decode cX0_explain 19 = .ok (.getfield 89, 3) := by decide +kernel
theorem dX0_explain_22 : decode cX0_explain 22 = .ok (.iconst (-1), 1) := by decide +kernel
theorem dX0_explain_23 : decode cX0_explain 23 = .ok (.if_icmp .ne 33, 3) := by decide +kernel
theorem dX0_explain_26 : decode cX0_explain 26 = .ok (.aload_n 1, 1) := by decide +kernel
theorem dX0_explain_27 : decode cX0_explain 27 = .ok (.getfield 103, 3) := by decide +kernel
theorem dX0_explain_30 : decode cX0_explain 30 = .ok (.iconst (-1), 1) := by decide +kernel
theorem dX0_explain_31 : decode cX0_explain 31 = .ok (.if_icmp .eq 7, 3) := by decide +kernel
theorem dX0_explain_34 : decode cX0_explain 34 = .ok (.iconst 3, 1) := by decide +kernel
theorem dX0_explain_35 : decode cX0_explain 35 = .ok (.goto 20, 3) := by decide +kernel
theorem dX0_explain_38 : decode cX0_explain 38 = .ok (.aload_n 0, 1) := by decide +kernel
theorem dX0_explain_39 : decode cX0_explain 39 = .ok (.aload_n 1, 1) := by decide +kernel
theorem dX0_explain_40 : decode cX0_explain 40 = .ok (.getfield 80, 3) := by decide +kernel
theorem dX0_explain_43 : decode cX0_explain 43 = .ok (.invokevirtual 127, 3) := by decide +kernel
theorem dX0_explain_46 : decode cX0_explain 46 = .ok (.ifCond .eq 7, 3) := by decide +kernel
theorem dX0_explain_49 : decode cX0_explain 49 = .ok (.iconst 4, 1) := by decide +kernel
theorem dX0_explain_50 : decode cX0_explain 50 = .ok (.goto 5, 3) := by decide +kernel
theorem dX0_explain_53 : decode cX0_explain 53 = .ok (.bipush 6, 2) := by decide +kernel
theorem dX0_explain_55 : decode cX0_explain 55 = .ok (.ireturn, 1) := by decide +kernel
theorem dX0_explain_56 : decode cX0_explain 56 = .ok (.aload_n 1, 1) := by decide +kernel
theorem dX0_explain_57 : decode cX0_explain 57 = .ok (.getfield 89, 3) := by decide +kernel
theorem dX0_explain_60 : decode cX0_explain 60 = .ok (.iload_n 2, 1) := by decide +kernel
theorem dX0_explain_61 : decode cX0_explain 61 = .ok (.if_icmp .eq 21, 3) := by decide +kernel
theorem dX0_explain_64 : decode cX0_explain 64 = .ok (.aload_n 0, 1) := by decide +kernel
theorem dX0_explain_65 : decode cX0_explain 65 = .ok (.getfield 22, 3) := by decide +kernel
theorem dX0_explain_68 : decode cX0_explain 68 = .ok (.aload_n 1, 1) := by decide +kernel
theorem dX0_explain_69 : decode cX0_explain 69 = .ok (.getfield 89, 3) := by decide +kernel
theorem dX0_explain_72 : decode cX0_explain 72 = .ok (.invokevirtual 131, 3) := by decide +kernel
theorem dX0_explain_75 : decode cX0_explain 75 = .ok (.ifnull 7, 3) := by decide +kernel
theorem dX0_explain_78 : decode cX0_explain 78 = .ok (.iconst 5, 1) := by decide +kernel
theorem dX0_explain_79 : decode cX0_explain 79 = .ok (.goto 5, 3) := by decide +kernel
theorem dX0_explain_82 : decode cX0_explain 82 = .ok (.bipush 6, 2) := by decide +kernel
theorem dX0_explain_84 : decode cX0_explain 84 = .ok (.ireturn, 1) := by decide +kernel
theorem dX0_stationMeant_0 : decode cX0_stationMeant 0 = .ok (.iconst (-1), 1) := by decide +kernel
theorem dX0_stationMeant_1 : decode cX0_stationMeant 1 = .ok (.istore 4, 2) := by decide +kernel
theorem dX0_stationMeant_3 : decode cX0_stationMeant 3 = .ok (.ldc2_w 134, 3) := by decide +kernel
theorem dX0_stationMeant_6 : decode cX0_stationMeant 6 = .ok (.lstore 5, 2) := by decide +kernel
theorem dX0_stationMeant_8 : decode cX0_stationMeant 8 = .ok (.iconst 0, 1) := by decide +kernel
theorem dX0_stationMeant_9 : decode cX0_stationMeant 9 = .ok (.istore 7, 2) := by decide +kernel
theorem dX0_stationMeant_11 : decode cX0_stationMeant 11 = .ok (.iload 7, 2) := by decide +kernel
theorem dX0_stationMeant_13 : decode cX0_stationMeant 13 = .ok (.aload_n 0, 1) := by decide +kernel
theorem dX0_stationMeant_14 : decode cX0_stationMeant 14 = .ok (.getfield 22, 3) := by decide +kernel
theorem dX0_stationMeant_17 : decode cX0_stationMeant 17 = .ok (.getfield 39, 3) := by decide +kernel
theorem dX0_stationMeant_20 : decode cX0_stationMeant 20 = .ok (.if_icmp .ge 73, 3) := by decide +kernel
theorem dX0_stationMeant_23 : decode cX0_stationMeant 23 = .ok (.aload_n 0, 1) := by decide +kernel
theorem dX0_stationMeant_24 : decode cX0_stationMeant 24 = .ok (.getfield 22, 3) := by decide +kernel
theorem dX0_stationMeant_27 : decode cX0_stationMeant 27 = .ok (.iload 7, 2) := by decide +kernel
theorem dX0_stationMeant_29 : decode cX0_stationMeant 29 = .ok (.invokevirtual 48, 3) := by decide +kernel
theorem dX0_stationMeant_32 : decode cX0_stationMeant 32 = .ok (.astore 8, 2) := by decide +kernel
theorem dX0_stationMeant_34 : decode cX0_stationMeant 34 = .ok (.iload 7, 2) := by decide +kernel
theorem dX0_stationMeant_36 : decode cX0_stationMeant 36 = .ok (.iload_n 2, 1) := by decide +kernel
theorem dX0_stationMeant_37 : decode cX0_stationMeant 37 = .ok (.if_icmp .eq 50, 3) := by decide +kernel
theorem dX0_stationMeant_40 : decode cX0_stationMeant 40 = .ok (.aload 8, 2) := by decide +kernel
theorem dX0_stationMeant_42 : decode cX0_stationMeant 42 = .ok (.ifnull 45, 3) := by decide +kernel
theorem dX0_stationMeant_45 : decode cX0_stationMeant 45 = .ok (.aload_n 1, 1) := by decide +kernel
theorem dX0_stationMeant_46 : decode cX0_stationMeant 46 = .ok (.aload 8, 2) := by decide +kernel
theorem dX0_stationMeant_48 : decode cX0_stationMeant 48 = .ok (.getfield 136, 3) := by decide +kernel
theorem dX0_stationMeant_51 : decode cX0_stationMeant 51 = .ok (.invokevirtual 137, 3) := by decide +kernel
theorem dX0_stationMeant_54 : decode cX0_stationMeant 54 = .ok (.ifCond .ne 6, 3) := by decide +kernel
theorem dX0_stationMeant_57 : decode cX0_stationMeant 57 = .ok (.goto 30, 3) := by decide +kernel
theorem dX0_stationMeant_60 : decode cX0_stationMeant 60 = .ok (.aload_n 0, 1) := by decide +kernel
theorem dX0_stationMeant_61 : decode cX0_stationMeant 61 = .ok (.aload_n 1, 1) := by decide +kernel
theorem dX0_stationMeant_62 : decode cX0_stationMeant 62 = .ok (.iload_n 2, 1) := by decide +kernel
theorem dX0_stationMeant_63 : decode cX0_stationMeant 63 = .ok (.aload 8, 2) := by decide +kernel
theorem dX0_stationMeant_65 : decode cX0_stationMeant 65 = .ok (.iload_n 3, 1) := by decide +kernel
theorem dX0_stationMeant_66 : decode cX0_stationMeant 66 = .ok (.invokevirtual 140, 3) := by decide +kernel
theorem dX0_stationMeant_69 : decode cX0_stationMeant 69 = .ok (.lstore 9, 2) := by decide +kernel
theorem dX0_stationMeant_71 : decode cX0_stationMeant 71 = .ok (.lload 9, 2) := by decide +kernel
theorem dX0_stationMeant_73 : decode cX0_stationMeant 73 = .ok (.lload 5, 2) := by decide +kernel
theorem dX0_stationMeant_75 : decode cX0_stationMeant 75 = .ok (.lcmp, 1) := by decide +kernel
theorem dX0_stationMeant_76 : decode cX0_stationMeant 76 = .ok (.ifCond .ge 11, 3) := by decide +kernel
theorem dX0_stationMeant_79 : decode cX0_stationMeant 79 = .ok (.lload 9, 2) := by decide +kernel
theorem dX0_stationMeant_81 : decode cX0_stationMeant 81 = .ok (.lstore 5, 2) := by decide +kernel
theorem dX0_stationMeant_83 : decode cX0_stationMeant 83 = .ok (.iload 7, 2) := by decide +kernel
theorem dX0_stationMeant_85 : decode cX0_stationMeant 85 = .ok (.istore 4, 2) := by decide +kernel
theorem dX0_stationMeant_87 : decode cX0_stationMeant 87 = .ok (.iinc 7 1, 3) := by decide +kernel
theorem dX0_stationMeant_90 : decode cX0_stationMeant 90 = .ok (.goto (-79), 3) := by decide +kernel
theorem dX0_stationMeant_93 : decode cX0_stationMeant 93 = .ok (.iload 4, 2) := by decide +kernel
theorem dX0_stationMeant_95 : decode cX0_stationMeant 95 = .ok (.ireturn, 1) := by decide +kernel
theorem dX0_earliestAnswer_0 : decode cX0_earliestAnswer 0 = .ok (.aload_n 0, 1) := by decide +kernel
theorem dX0_earliestAnswer_1 : decode cX0_earliestAnswer 1 = .ok (.getfield 22, 3) := by decide +kernel
theorem dX0_earliestAnswer_4 : decode cX0_earliestAnswer 4 = .ok (.iload_n 2, 1) := by decide +kernel
theorem dX0_earliestAnswer_5 : decode cX0_earliestAnswer 5 = .ok (.invokevirtual 48, 3) := by decide +kernel
theorem dX0_earliestAnswer_8 : decode cX0_earliestAnswer 8 = .ok (.astore 5, 2) := by decide +kernel
theorem dX0_earliestAnswer_10 : decode cX0_earliestAnswer 10 = .ok (.aload_n 3, 1) := by decide +kernel
theorem dX0_earliestAnswer_11 : decode cX0_earliestAnswer 11 = .ok (.iload 4, 2) := by decide +kernel
theorem dX0_earliestAnswer_13 : decode cX0_earliestAnswer 13 = .ok (.invokevirtual 69, 3) := by decide +kernel
theorem dX0_earliestAnswer_16 : decode cX0_earliestAnswer 16 = .ok (.astore 6, 2) := by decide +kernel
theorem dX0_earliestAnswer_18 : decode cX0_earliestAnswer 18 = .ok (.ldc2_w 134, 3) := by decide +kernel
theorem dX0_earliestAnswer_21 : decode cX0_earliestAnswer 21 = .ok (.lstore 7, 2) := by decide +kernel
theorem dX0_earliestAnswer_23 : decode cX0_earliestAnswer 23 = .ok (.iconst 0, 1) := by decide +kernel
theorem dX0_earliestAnswer_24 : decode cX0_earliestAnswer 24 = .ok (.istore 9, 2) := by decide +kernel
theorem dX0_earliestAnswer_26 : decode cX0_earliestAnswer 26 = .ok (.aload 5, 2) := by decide +kernel
theorem dX0_earliestAnswer_28 : decode cX0_earliestAnswer 28 = .ok (.ifnull 105, 3) := by decide +kernel
theorem dX0_earliestAnswer_31 : decode cX0_earliestAnswer 31 = .ok (.aload 6, 2) := by decide +kernel
theorem dX0_earliestAnswer_33 : decode cX0_earliestAnswer 33 = .ok (.ifnull 100, 3) := by decide +kernel
theorem dX0_earliestAnswer_36 : decode cX0_earliestAnswer 36 = .ok (.iload 9, 2) := by decide +kernel
theorem dX0_earliestAnswer_38 : decode cX0_earliestAnswer 38 = .ok (.aload 6, 2) := by decide +kernel
theorem dX0_earliestAnswer_40 : decode cX0_earliestAnswer 40 = .ok (.getfield 73, 3) := by decide +kernel
theorem dX0_earliestAnswer_43 : decode cX0_earliestAnswer 43 = .ok (.if_icmp .ge 90, 3) := by decide +kernel
theorem dX0_earliestAnswer_46 : decode cX0_earliestAnswer 46 = .ok (.aload 6, 2) := by decide +kernel
theorem dX0_earliestAnswer_48 : decode cX0_earliestAnswer 48 = .ok (.iload 9, 2) := by decide +kernel
theorem dX0_earliestAnswer_50 : decode cX0_earliestAnswer 50 = .ok (.invokevirtual 76, 3) := by decide +kernel
theorem dX0_earliestAnswer_53 : decode cX0_earliestAnswer 53 = .ok (.astore 10, 2) := by decide +kernel
theorem dX0_earliestAnswer_55 : decode cX0_earliestAnswer 55 = .ok (.aload 10, 2) := by decide +kernel
theorem dX0_earliestAnswer_57 : decode cX0_earliestAnswer 57 = .ok (.ifnull 70, 3) := by decide +kernel
theorem dX0_earliestAnswer_60 : decode cX0_earliestAnswer 60 = .ok (.aload 10, 2) := by decide +kernel
theorem dX0_earliestAnswer_62 : decode cX0_earliestAnswer 62 = .ok (.getfield 89, 3) := by decide +kernel
theorem dX0_earliestAnswer_65 : decode cX0_earliestAnswer 65 = .ok (.iload_n 2, 1) := by decide +kernel
theorem dX0_earliestAnswer_66 : decode cX0_earliestAnswer 66 = .ok (.if_icmp .ne 61, 3) := by decide +kernel
theorem dX0_earliestAnswer_69 : decode cX0_earliestAnswer 69 = .ok (.aload 10, 2) := by decide +kernel
theorem dX0_earliestAnswer_71 : decode cX0_earliestAnswer 71 = .ok (.invokevirtual 106, 3) := by decide +kernel
theorem dX0_earliestAnswer_74 : decode cX0_earliestAnswer 74 = .ok (.ifCond .ne 53, 3) := by decide +kernel
theorem dX0_earliestAnswer_77 : decode cX0_earliestAnswer 77 = .ok (.aload_n 1, 1) := by decide +kernel
theorem dX0_earliestAnswer_78 : decode cX0_earliestAnswer 78 = .ok (.aload 10, 2) := by decide +kernel
theorem dX0_earliestAnswer_80 : decode cX0_earliestAnswer 80 = .ok (.invokevirtual 144, 3) := by decide +kernel
theorem dX0_earliestAnswer_83 : decode cX0_earliestAnswer 83 = .ok (.ifCond .ne 6, 3) := by decide +kernel
theorem dX0_earliestAnswer_86 : decode cX0_earliestAnswer 86 = .ok (.goto 41, 3) := by decide +kernel
theorem dX0_earliestAnswer_89 : decode cX0_earliestAnswer 89 = .ok (.aload_n 3, 1) := by decide +kernel
theorem dX0_earliestAnswer_90 : decode cX0_earliestAnswer 90 = .ok (.aload 10, 2) := by decide +kernel
theorem dX0_earliestAnswer_92 : decode cX0_earliestAnswer 92 = .ok (.invokevirtual 147, 3) := by decide +kernel
theorem dX0_earliestAnswer_95 : decode cX0_earliestAnswer 95 = .ok (.lstore 11, 2) := by decide +kernel
theorem dX0_earliestAnswer_97 : decode cX0_earliestAnswer 97 = .ok (.aload 5, 2) := by decide +kernel
theorem dX0_earliestAnswer_99 : decode cX0_earliestAnswer 99 = .ok (.aload_n 1, 1) := by decide +kernel
theorem dX0_earliestAnswer_100 : decode cX0_earliestAnswer 100 = .ok (.invokevirtual 147, 3) := by decide +kernel
theorem dX0_earliestAnswer_103 : decode cX0_earliestAnswer 103 = .ok (.lload 11, 2) := by decide +kernel
theorem dX0_earliestAnswer_105 : decode cX0_earliestAnswer 105 = .ok (.lsub, 1) := by decide +kernel
theorem dX0_earliestAnswer_106 : decode cX0_earliestAnswer 106 = .ok (.invokestatic 151, 3) := by decide +kernel
theorem dX0_earliestAnswer_109 : decode cX0_earliestAnswer 109 = .ok (.aload_n 0, 1) := by decide +kernel
theorem dX0_earliestAnswer_110 : decode cX0_earliestAnswer 110 = .ok (.getfield 18, 3) := by decide +kernel
theorem dX0_earliestAnswer_113 : decode cX0_earliestAnswer 113 = .ok (.i2l, 1) := by decide +kernel
theorem dX0_earliestAnswer_114 : decode cX0_earliestAnswer 114 = .ok (.lcmp, 1) := by decide +kernel
theorem dX0_earliestAnswer_115 : decode cX0_earliestAnswer 115 = .ok (.ifCond .gt 12, 3) := by decide +kernel
theorem dX0_earliestAnswer_118 : decode cX0_earliestAnswer 118 = .ok (.lload 7, 2) := by decide +kernel
theorem dX0_earliestAnswer_120 : decode cX0_earliestAnswer 120 = .ok (.lload 11, 2) := by decide +kernel
theorem dX0_earliestAnswer_122 : decode cX0_earliestAnswer 122 = .ok (.invokestatic 157, 3) := by decide +kernel
theorem dX0_earliestAnswer_125 : decode cX0_earliestAnswer 125 = .ok (.lstore 7, 2) := by decide +kernel
theorem dX0_earliestAnswer_127 : decode cX0_earliestAnswer 127 = .ok (.iinc 9 1, 3) := by decide +kernel
theorem dX0_earliestAnswer_130 : decode cX0_earliestAnswer 130 = .ok (.goto (-104), 3) := by decide +kernel
theorem dX0_earliestAnswer_133 : decode cX0_earliestAnswer 133 = .ok (.lload 7, 2) := by decide +kernel
theorem dX0_earliestAnswer_135 : decode cX0_earliestAnswer 135 = .ok (.lreturn, 1) := by decide +kernel
theorem dX0_isUnique_0 : decode cX0_isUnique 0 = .ok (.iconst 0, 1) := by decide +kernel
theorem dX0_isUnique_1 : decode cX0_isUnique 1 = .ok (.istore_n 3, 1) := by decide +kernel
theorem dX0_isUnique_2 : decode cX0_isUnique 2 = .ok (.iconst 0, 1) := by decide +kernel
theorem dX0_isUnique_3 : decode cX0_isUnique 3 = .ok (.istore 4, 2) := by decide +kernel
theorem dX0_isUnique_5 : decode cX0_isUnique 5 = .ok (.iload 4, 2) := by decide +kernel
theorem dX0_isUnique_7 : decode cX0_isUnique 7 = .ok (.aload_n 0, 1) := by decide +kernel
theorem dX0_isUnique_8 : decode cX0_isUnique 8 = .ok (.getfield 22, 3) := by decide +kernel
theorem dX0_isUnique_11 : decode cX0_isUnique 11 = .ok (.getfield 39, 3) := by decide +kernel
theorem dX0_isUnique_14 : decode cX0_isUnique 14 = .ok (.if_icmp .ge 37, 3) := by decide +kernel
theorem dX0_isUnique_17 : decode cX0_isUnique 17 = .ok (.aload_n 0, 1) := by decide +kernel
theorem dX0_isUnique_18 : decode cX0_isUnique 18 = .ok (.getfield 22, 3) := by decide +kernel
theorem dX0_isUnique_21 : decode cX0_isUnique 21 = .ok (.iload 4, 2) := by decide +kernel
theorem dX0_isUnique_23 : decode cX0_isUnique 23 = .ok (.invokevirtual 48, 3) := by decide +kernel
theorem dX0_isUnique_26 : decode cX0_isUnique 26 = .ok (.astore 5, 2) := by decide +kernel
theorem dX0_isUnique_28 : decode cX0_isUnique 28 = .ok (.aload 5, 2) := by decide +kernel
theorem dX0_isUnique_30 : decode cX0_isUnique 30 = .ok (.ifnull 15, 3) := by decide +kernel
theorem dX0_isUnique_33 : decode cX0_isUnique 33 = .ok (.aload 5, 2) := by decide +kernel
theorem dX0_isUnique_35 : decode cX0_isUnique 35 = .ok (.lload_n 1, 1) := by decide +kernel
theorem dX0_isUnique_36 : decode cX0_isUnique 36 = .ok (.invokevirtual 161, 3) := by decide +kernel
theorem dX0_isUnique_39 : decode cX0_isUnique 39 = .ok (.ifCond .eq 6, 3) := by decide +kernel
theorem dX0_isUnique_42 : decode cX0_isUnique 42 = .ok (.iinc 3 1, 3) := by decide +kernel
theorem dX0_isUnique_45 : decode cX0_isUnique 45 = .ok (.iinc 4 1, 3) := by decide +kernel
theorem dX0_isUnique_48 : decode cX0_isUnique 48 = .ok (.goto (-43), 3) := by decide +kernel
theorem dX0_isUnique_51 : decode cX0_isUnique 51 = .ok (.iload_n 3, 1) := by decide +kernel
theorem dX0_isUnique_52 : decode cX0_isUnique 52 = .ok (.iconst 3, 1) := by decide +kernel
theorem dX0_isUnique_53 : decode cX0_isUnique 53 = .ok (.if_icmp .ge 7, 3) := by decide +kernel
theorem dX0_isUnique_56 : decode cX0_isUnique 56 = .ok (.iconst 1, 1) := by decide +kernel
theorem dX0_isUnique_57 : decode cX0_isUnique 57 = .ok (.goto 4, 3) := by decide +kernel
theorem dX0_isUnique_60 : decode cX0_isUnique 60 = .ok (.iconst 0, 1) := by decide +kernel
theorem dX0_isUnique_61 : decode cX0_isUnique 61 = .ok (.ireturn, 1) := by decide +kernel
theorem dX1_init_0 : decode cX1_init 0 = .ok (.aload_n 0, 1) := by decide +kernel
theorem dX1_init_1 : decode cX1_init 1 = .ok (.invokespecial 3, 3) := by decide +kernel
theorem dX1_init_4 : decode cX1_init 4 = .ok (.aload_n 0, 1) := by decide +kernel
theorem dX1_init_5 : decode cX1_init 5 = .ok (.sipush 768, 3) := by decide +kernel
theorem dX1_init_8 : decode cX1_init 8 = .ok (.newarray .long, 2) := by decide +kernel
theorem dX1_init_10 : decode cX1_init 10 = .ok (.putfield 11, 3) := by decide +kernel
theorem dX1_init_13 : decode cX1_init 13 = .ok (.aload_n 0, 1) := by decide +kernel
theorem dX1_init_14 : decode cX1_init 14 = .ok (.sipush 768, 3) := by decide +kernel
theorem dX1_init_17 : decode cX1_init 17 = .ok (.newarray .int, 2) := by decide +kernel
theorem dX1_init_19 : decode cX1_init 19 = .ok (.putfield 15, 3) := by decide +kernel
theorem dX1_init_22 : decode cX1_init 22 = .ok (.aload_n 0, 1) := by decide +kernel
theorem dX1_init_23 : decode cX1_init 23 = .ok (.aload_n 1, 1) := by decide +kernel
theorem dX1_init_24 : decode cX1_init 24 = .ok (.putfield 19, 3) := by decide +kernel
theorem dX1_init_27 : decode cX1_init 27 = .ok (.return_, 1) := by decide +kernel
theorem dX1_offsetOf_0 : decode cX1_offsetOf 0 = .ok (.aload_n 0, 1) := by decide +kernel
theorem dX1_offsetOf_1 : decode cX1_offsetOf 1 = .ok (.iload_n 1, 1) := by decide +kernel
theorem dX1_offsetOf_2 : decode cX1_offsetOf 2 = .ok (.invokevirtual 23, 3) := by decide +kernel
theorem dX1_offsetOf_5 : decode cX1_offsetOf 5 = .ok (.aload_n 0, 1) := by decide +kernel
theorem dX1_offsetOf_6 : decode cX1_offsetOf 6 = .ok (.lconst 0, 1) := by decide +kernel
theorem dX1_offsetOf_7 : decode cX1_offsetOf 7 = .ok (.iload_n 2, 1) := by decide +kernel
theorem dX1_offsetOf_8 : decode cX1_offsetOf 8 = .ok (.invokevirtual 27, 3) := by decide +kernel
theorem dX1_offsetOf_11 : decode cX1_offsetOf 11 = .ok (.ifCond .eq 5, 3) := by decide +kernel
theorem dX1_offsetOf_14 : decode cX1_offsetOf 14 = .ok (.lconst 0, 1) := by decide +kernel
theorem dX1_offsetOf_15 : decode cX1_offsetOf 15 = .ok (.lreturn, 1) := by decide +kernel
theorem dX1_offsetOf_16 : decode cX1_offsetOf 16 = .ok (.lconst 0, 1) := by decide +kernel
theorem dX1_offsetOf_17 : decode cX1_offsetOf 17 = .ok (.lstore_n 3, 1) := by decide +kernel
theorem dX1_offsetOf_18 : decode cX1_offsetOf 18 = .ok (.iconst 0, 1) := by decide +kernel
theorem dX1_offsetOf_19 : decode cX1_offsetOf 19 = .ok (.istore 5, 2) := by decide +kernel
theorem dX1_offsetOf_21 : decode cX1_offsetOf 21 = .ok (.iload 5, 2) := by decide +kernel
theorem dX1_offsetOf_23 : decode cX1_offsetOf 23 = .ok (.aload_n 0, 1) := by decide +kernel
theorem dX1_offsetOf_24 : decode cX1_offsetOf 24 = .ok (.getfield 31, 3) := by decide +kernel
theorem dX1_offsetOf_27 : decode cX1_offsetOf 27 = .ok (.if_icmp .ge 51, 3) := by decide +kernel
theorem dX1_offsetOf_30 : decode cX1_offsetOf 30 = .ok (.aload_n 0, 1) := by decide +kernel
theorem dX1_offsetOf_31 : decode cX1_offsetOf 31 = .ok (.getfield 11, 3) := by decide +kernel
theorem dX1_offsetOf_34 : decode cX1_offsetOf 34 = .ok (.iload 5, 2) := by decide +kernel
theorem dX1_offsetOf_36 : decode cX1_offsetOf 36 = .ok (.laload, 1) := by decide +kernel
theorem dX1_offsetOf_37 : decode cX1_offsetOf 37 = .ok (.iload_n 2, 1) := by decide +kernel
theorem dX1_offsetOf_38 : decode cX1_offsetOf 38 = .ok (.invokestatic 35, 3) := by decide +kernel
theorem dX1_offsetOf_41 : decode cX1_offsetOf 41 = .ok (.lstore 6, 2) := by decide +kernel
theorem dX1_offsetOf_43 : decode cX1_offsetOf 43 = .ok (.lload 6, 2) := by decide +kernel
theorem dX1_offsetOf_45 : decode cX1_offsetOf 45 = .ok (.lconst 0, 1) := by decide +kernel
theorem dX1_offsetOf_46 : decode cX1_offsetOf 46 = .ok (.lcmp, 1) := by decide +kernel
theorem dX1_offsetOf_47 : decode cX1_offsetOf 47 = .ok (.ifCond .eq 25, 3) := by decide +kernel
theorem dX1_offsetOf_50 : decode cX1_offsetOf 50 = .ok (.lload 6, 2) := by decide +kernel
theorem dX1_offsetOf_52 : decode cX1_offsetOf 52 = .ok (.lload_n 3, 1) := by decide +kernel
theorem dX1_offsetOf_53 : decode cX1_offsetOf 53 = .ok (.invokestatic 39, 3) := by decide +kernel
theorem dX1_offsetOf_56 : decode cX1_offsetOf 56 = .ok (.ifCond .eq 16, 3) := by decide +kernel
theorem dX1_offsetOf_59 : decode cX1_offsetOf 59 = .ok (.aload_n 0, 1) := by decide +kernel
theorem dX1_offsetOf_60 : decode cX1_offsetOf 60 = .ok (.lload 6, 2) := by decide +kernel
theorem dX1_offsetOf_62 : decode cX1_offsetOf 62 = .ok (.iload_n 2, 1) := by decide +kernel
theorem dX1_offsetOf_63 : decode cX1_offsetOf 63 = .ok (.invokevirtual 27, 3) := by decide +kernel
theorem dX1_offsetOf_66 : decode cX1_offsetOf 66 = .ok (.ifCond .eq 6, 3) := by decide +kernel
theorem dX1_offsetOf_69 : decode cX1_offsetOf 69 = .ok (.lload 6, 2) := by decide +kernel
theorem dX1_offsetOf_71 : decode cX1_offsetOf 71 = .ok (.lstore_n 3, 1) := by decide +kernel
theorem dX1_offsetOf_72 : decode cX1_offsetOf 72 = .ok (.iinc 5 1, 3) := by decide +kernel
theorem dX1_offsetOf_75 : decode cX1_offsetOf 75 = .ok (.goto (-54), 3) := by decide +kernel
theorem dX1_offsetOf_78 : decode cX1_offsetOf 78 = .ok (.lload_n 3, 1) := by decide +kernel
theorem dX1_offsetOf_79 : decode cX1_offsetOf 79 = .ok (.lreturn, 1) := by decide +kernel
theorem dX1_edgeTowardsZero_0 : decode cX1_edgeTowardsZero 0 = .ok (.lload_n 0, 1) := by decide +kernel
theorem dX1_edgeTowardsZero_1 : decode cX1_edgeTowardsZero 1 = .ok (.iload_n 2, 1) := by decide +kernel
theorem dX1_edgeTowardsZero_2 : decode cX1_edgeTowardsZero 2 = .ok (.i2l, 1) := by decide +kernel
theorem dX1_edgeTowardsZero_3 : decode cX1_edgeTowardsZero 3 = .ok (.lcmp, 1) := by decide +kernel
theorem dX1_edgeTowardsZero_4 : decode cX1_edgeTowardsZero 4 = .ok (.ifCond .le 8, 3) := by decide +kernel
theorem dX1_edgeTowardsZero_7 : decode cX1_edgeTowardsZero 7 = .ok (.lload_n 0, 1) := by decide +kernel
theorem dX1_edgeTowardsZero_8 : decode cX1_edgeTowardsZero 8 = .ok (.iload_n 2, 1) := by decide +kernel
theorem dX1_edgeTowardsZero_9 : decode cX1_edgeTowardsZero 9 = .ok (.i2l, 1) := by decide +kernel
theorem dX1_edgeTowardsZero_10 : decode cX1_edgeTowardsZero 10 = .ok (.lsub, 1) := by decide +kernel
theorem dX1_edgeTowardsZero_11 : decode cX1_edgeTowardsZero 11 = .ok (.lreturn, 1) := by decide +kernel
theorem dX1_edgeTowardsZero_12 : decode cX1_edgeTowardsZero 12 = .ok (.lload_n 0, 1) := by decide +kernel
theorem dX1_edgeTowardsZero_13 : decode cX1_edgeTowardsZero 13 = .ok (.iload_n 2, 1) := by decide +kernel
theorem dX1_edgeTowardsZero_14 : decode cX1_edgeTowardsZero 14 = .ok (.ineg, 1) := by decide +kernel
theorem dX1_edgeTowardsZero_15 : decode cX1_edgeTowardsZero 15 = .ok (.i2l, 1) := by decide +kernel
theorem dX1_edgeTowardsZero_16 : decode cX1_edgeTowardsZero 16 = .ok (.lcmp, 1) := by decide +kernel
theorem dX1_edgeTowardsZero_17 : decode cX1_edgeTowardsZero 17 = .ok (.ifCond .ge 10, 3) := by decide +kernel
theorem dX1_edgeTowardsZero_20 : decode cX1_edgeTowardsZero 20 = .ok (.lload_n 0, 1) := by decide +kernel
theorem dX1_edgeTowardsZero_21 : decode cX1_edgeTowardsZero 21 = .ok (.iload_n 2, 1) := by decide +kernel
theorem dX1_edgeTowardsZero_22 : decode cX1_edgeTowardsZero 22 = .ok (.i2l, 1) := by decide +kernel
theorem dX1_edgeTowardsZero_23 : decode cX1_edgeTowardsZero 23 = .ok (.ladd, 1) := by decide +kernel
theorem dX1_edgeTowardsZero_24 : decode cX1_edgeTowardsZero 24 = .ok (.goto 4, 3) := by decide +kernel
theorem dX1_edgeTowardsZero_27 : decode cX1_edgeTowardsZero 27 = .ok (.lconst 0, 1) := by decide +kernel
theorem dX1_edgeTowardsZero_28 : decode cX1_edgeTowardsZero 28 = .ok (.lreturn, 1) := by decide +kernel
theorem dX1_isNearer_0 : decode cX1_isNearer 0 = .ok (.lload_n 2, 1) := by decide +kernel
theorem dX1_isNearer_1 : decode cX1_isNearer 1 = .ok (.lconst 0, 1) := by decide +kernel
theorem dX1_isNearer_2 : decode cX1_isNearer 2 = .ok (.lcmp, 1) := by decide +kernel
theorem dX1_isNearer_3 : decode cX1_isNearer 3 = .ok (.ifCond .eq 33, 3) := by decide +kernel
theorem dX1_isNearer_6 : decode cX1_isNearer 6 = .ok (.lload_n 0, 1) := by decide +kernel
theorem dX1_isNearer_7 : decode cX1_isNearer 7 = .ok (.invokestatic 43, 3) := by decide +kernel
theorem dX1_isNearer_10 : decode cX1_isNearer 10 = .ok (.lload_n 2, 1) := by decide +kernel
theorem dX1_isNearer_11 : decode cX1_isNearer 11 = .ok (.invokestatic 43, 3) := by decide +kernel
theorem dX1_isNearer_14 : decode cX1_isNearer 14 = .ok (.lcmp, 1) := by decide +kernel
theorem dX1_isNearer_15 : decode cX1_isNearer 15 = .ok (.ifCond .lt 21, 3) := by decide +kernel
theorem dX1_isNearer_18 : decode cX1_isNearer 18 = .ok (.lload_n 0, 1) := by decide +kernel
theorem dX1_isNearer_19 : decode cX1_isNearer 19 = .ok (.invokestatic 43, 3) := by decide +kernel
theorem dX1_isNearer_22 : decode cX1_isNearer 22 = .ok (.lload_n 2, 1) := by decide +kernel
theorem dX1_isNearer_23 : decode cX1_isNearer 23 = .ok (.invokestatic 43, 3) := by decide +kernel
theorem dX1_isNearer_26 : decode cX1_isNearer 26 = .ok (.lcmp, 1) := by decide +kernel
theorem dX1_isNearer_27 : decode cX1_isNearer 27 = .ok (.ifCond .ne 13, 3) := by decide +kernel
theorem dX1_isNearer_30 : decode cX1_isNearer 30 = .ok (.lload_n 0, 1) := by decide +kernel
theorem dX1_isNearer_31 : decode cX1_isNearer 31 = .ok (.lload_n 2, 1) := by decide +kernel
theorem dX1_isNearer_32 : decode cX1_isNearer 32 = .ok (.lcmp, 1) := by decide +kernel
theorem dX1_isNearer_33 : decode cX1_isNearer 33 = .ok (.ifCond .ge 7, 3) := by decide +kernel
theorem dX1_isNearer_36 : decode cX1_isNearer 36 = .ok (.iconst 1, 1) := by decide +kernel
theorem dX1_isNearer_37 : decode cX1_isNearer 37 = .ok (.goto 4, 3) := by decide +kernel
theorem dX1_isNearer_40 : decode cX1_isNearer 40 = .ok (.iconst 0, 1) := by decide +kernel
theorem dX1_isNearer_41 : decode cX1_isNearer 41 = .ok (.ireturn, 1) := by decide +kernel
theorem dX1_gatherGaps_0 : decode cX1_gatherGaps 0 = .ok (.aload_n 0, 1) := by decide +kernel
theorem dX1_gatherGaps_1 : decode cX1_gatherGaps 1 = .ok (.iconst 0, 1) := by decide +kernel
theorem dX1_gatherGaps_2 : decode cX1_gatherGaps 2 = .ok (.putfield 31, 3) := by decide +kernel
theorem dX1_gatherGaps_5 : decode cX1_gatherGaps 5 = .ok (.aload_n 0, 1) := by decide +kernel
theorem dX1_gatherGaps_6 : decode cX1_gatherGaps 6 = .ok (.iconst 0, 1) := by decide +kernel
theorem dX1_gatherGaps_7 : decode cX1_gatherGaps 7 = .ok (.putfield 49, 3) := by decide +kernel
theorem dX1_gatherGaps_10 : decode cX1_gatherGaps 10 = .ok (.aload_n 0, 1) := by decide +kernel
theorem dX1_gatherGaps_11 : decode cX1_gatherGaps 11 = .ok (.getfield 19, 3) := by decide +kernel
theorem dX1_gatherGaps_14 : decode cX1_gatherGaps 14 = .ok (.iload_n 1, 1) := by decide +kernel
theorem dX1_gatherGaps_15 : decode cX1_gatherGaps 15 = .ok (.invokevirtual 52, 3) := by decide +kernel
theorem dX1_gatherGaps_18 : decode cX1_gatherGaps 18 = .ok (.astore_n 2, 1) := by decide +kernel
theorem dX1_gatherGaps_19 : decode cX1_gatherGaps 19 = .ok (.iconst 0, 1) := by decide +kernel
theorem dX1_gatherGaps_20 : decode cX1_gatherGaps 20 = .ok (.istore_n 3, 1) := by decide +kernel
theorem dX1_gatherGaps_21 : decode cX1_gatherGaps 21 = .ok (.iload_n 3, 1) := by decide +kernel
theorem dX1_gatherGaps_22 : decode cX1_gatherGaps 22 = .ok (.iconst 3, 1) := by decide +kernel
theorem dX1_gatherGaps_23 : decode cX1_gatherGaps 23 = .ok (.if_icmp .ge 75, 3) := by decide +kernel
theorem dX1_gatherGaps_26 : decode cX1_gatherGaps 26 = .ok (.aload_n 2, 1) := by decide +kernel
theorem dX1_gatherGaps_27 : decode cX1_gatherGaps 27 = .ok (.ifnull 71, 3) := by decide +kernel
theorem dX1_gatherGaps_30 : decode cX1_gatherGaps 30 = .ok (.aload_n 2, 1) := by decide +kernel
theorem dX1_gatherGaps_31 : decode cX1_gatherGaps 31 = .ok (.iload_n 3, 1) := by decide +kernel
theorem dX1_gatherGaps_32 : decode cX1_gatherGaps 32 = .ok (.invokevirtual 58, 3) := by decide +kernel
theorem dX1_gatherGaps_35 : decode cX1_gatherGaps 35 = .ok (.astore 4, 2) := by decide +kernel
theorem dX1_gatherGaps_37 : decode cX1_gatherGaps 37 = .ok (.iconst 0, 1) := by decide +kernel
theorem dX1_gatherGaps_38 : decode cX1_gatherGaps 38 = .ok (.istore 5, 2) := by decide +kernel
theorem dX1_gatherGaps_40 : decode cX1_gatherGaps 40 = .ok (.aload 4, 2) := by decide +kernel
theorem dX1_gatherGaps_42 : decode cX1_gatherGaps 42 = .ok (.ifnull 50, 3) := by decide +kernel
theorem dX1_gatherGaps_45 : decode cX1_gatherGaps 45 = .ok (.iload 5, 2) := by decide +kernel
theorem dX1_gatherGaps_47 : decode cX1_gatherGaps 47 = .ok (.aload 4, 2) := by decide +kernel
theorem dX1_gatherGaps_49 : decode cX1_gatherGaps 49 = .ok (.getfield 64, 3) := by decide +kernel
theorem dX1_gatherGaps_52 : decode cX1_gatherGaps 52 = .ok (.if_icmp .ge 40, 3) := by decide +kernel
theorem dX1_gatherGaps_55 : decode cX1_gatherGaps 55 = .ok (.aload 4, 2) := by decide +kernel
theorem dX1_gatherGaps_57 : decode cX1_gatherGaps 57 = .ok (.iload 5, 2) := by decide +kernel
theorem dX1_gatherGaps_59 : decode cX1_gatherGaps 59 = .ok (.invokevirtual 69, 3) := by decide +kernel
theorem dX1_gatherGaps_62 : decode cX1_gatherGaps 62 = .ok (.astore 6, 2) := by decide +kernel
theorem dX1_gatherGaps_64 : decode cX1_gatherGaps 64 = .ok (.aload 6, 2) := by decide +kernel
theorem dX1_gatherGaps_66 : decode cX1_gatherGaps 66 = .ok (.ifnull 20, 3) := by decide +kernel
theorem dX1_gatherGaps_69 : decode cX1_gatherGaps 69 = .ok (.aload 6, 2) := by decide +kernel
theorem dX1_gatherGaps_71 : decode cX1_gatherGaps 71 = .ok (.getfield 73, 3) := by decide +kernel
theorem dX1_gatherGaps_74 : decode cX1_gatherGaps 74 = .ok (.iload_n 1, 1) := by decide +kernel
theorem dX1_gatherGaps_75 : decode cX1_gatherGaps 75 = .ok (.if_icmp .eq 11, 3) := by decide +kernel
theorem dX1_gatherGaps_78 : decode cX1_gatherGaps 78 = .ok (.aload_n 0, 1) := by decide +kernel
theorem dX1_gatherGaps_79 : decode cX1_gatherGaps 79 = .ok (.aload 6, 2) := by decide +kernel
theorem dX1_gatherGaps_81 : decode cX1_gatherGaps 81 = .ok (.iload_n 1, 1) := by decide +kernel
theorem dX1_gatherGaps_82 : decode cX1_gatherGaps 82 = .ok (.iload_n 3, 1) := by decide +kernel
theorem dX1_gatherGaps_83 : decode cX1_gatherGaps 83 = .ok (.invokevirtual 78, 3) := by decide +kernel
theorem dX1_gatherGaps_86 : decode cX1_gatherGaps 86 = .ok (.iinc 5 1, 3) := by decide +kernel
theorem dX1_gatherGaps_89 : decode cX1_gatherGaps 89 = .ok (.goto (-49), 3) := by decide +kernel
theorem dX1_gatherGaps_92 : decode cX1_gatherGaps 92 = .ok (.iinc 3 1, 3) := by decide +kernel
theorem dX1_gatherGaps_95 : decode cX1_gatherGaps 95 = .ok (.goto (-74), 3) := by decide +kernel
theorem dX1_gatherGaps_98 : decode cX1_gatherGaps 98 = .ok (.return_, 1) := by decide +kernel
theorem dX1_gatherGapsOf_0 : decode cX1_gatherGapsOf 0 = .ok (.aload_n 0, 1) := by decide +kernel
theorem dX1_gatherGapsOf_1 : decode cX1_gatherGapsOf 1 = .ok (.getfield 19, 3) := by decide +kernel
theorem dX1_gatherGapsOf_4 : decode cX1_gatherGapsOf 4 = .ok (.aload_n 1, 1) := by decide +kernel
theorem dX1_gatherGapsOf_5 : decode cX1_gatherGapsOf 5 = .ok (.getfield 73, 3) := by decide +kernel
theorem dX1_gatherGapsOf_8 : decode cX1_gatherGapsOf 8 = .ok (.invokevirtual 82, 3) := by decide +kernel
theorem dX1_gatherGapsOf_11 : decode cX1_gatherGapsOf 11 = .ok (.astore 4, 2) := by decide +kernel
theorem dX1_gatherGapsOf_13 : decode cX1_gatherGapsOf 13 = .ok (.aload 4, 2) := by decide +kernel
theorem dX1_gatherGapsOf_15 : decode cX1_gatherGapsOf 15 = .ok (.ifnonnull 4, 3) := by decide +kernel
theorem dX1_gatherGapsOf_18 : decode cX1_gatherGapsOf 18 = .ok (.return_, 1) := by decide +kernel
theorem dX1_gatherGapsOf_19 : decode cX1_gatherGapsOf 19 = .ok (.aload 4, 2) := by decide +kernel
theorem dX1_gatherGapsOf_21 : decode cX1_gatherGapsOf 21 = .ok (.iload_n 3, 1) := by decide +kernel
theorem dX1_gatherGapsOf_22 : decode cX1_gatherGapsOf 22 = .ok (.invokevirtual 58, 3) := by decide +kernel
theorem dX1_gatherGapsOf_25 : decode cX1_gatherGapsOf 25 = .ok (.astore 5, 2) := by decide +kernel
theorem dX1_gatherGapsOf_27 : decode cX1_gatherGapsOf 27 = .ok (.iconst 0, 1) := by decide +kernel
theorem dX1_gatherGapsOf_28 : decode cX1_gatherGapsOf 28 = .ok (.istore 6, 2) := by decide +kernel
theorem dX1_gatherGapsOf_30 : decode cX1_gatherGapsOf 30 = .ok (.aload 5, 2) := by decide +kernel
theorem dX1_gatherGapsOf_32 : decode cX1_gatherGapsOf 32 = .ok (.ifnull 103, 3) := by decide +kernel
theorem dX1_gatherGapsOf_35 : decode cX1_gatherGapsOf 35 = .ok (.iload 6, 2) := by decide +kernel
theorem dX1_gatherGapsOf_37 : decode cX1_gatherGapsOf 37 = .ok (.aload 5, 2) := by decide +kernel
theorem dX1_gatherGapsOf_39 : decode cX1_gatherGapsOf 39 = .ok (.getfield 64, 3) := by decide +kernel
theorem dX1_gatherGapsOf_42 : decode cX1_gatherGapsOf 42 = .ok (.if_icmp .ge 93, 3) := by decide +kernel
theorem dX1_gatherGapsOf_45 : decode cX1_gatherGapsOf 45 = .ok (.aload 5, 2) := by decide +kernel
theorem dX1_gatherGapsOf_47 : decode cX1_gatherGapsOf 47 = .ok (.iload 6, 2) := by decide +kernel
theorem dX1_gatherGapsOf_49 : decode cX1_gatherGapsOf 49 = .ok (.invokevirtual 69, 3) := by decide +kernel
theorem dX1_gatherGapsOf_52 : decode cX1_gatherGapsOf 52 = .ok (.astore 7, 2) := by decide +kernel
theorem dX1_gatherGapsOf_54 : decode cX1_gatherGapsOf 54 = .ok (.aload 7, 2) := by decide +kernel
theorem dX1_gatherGapsOf_56 : decode cX1_gatherGapsOf 56 = .ok (.ifnull 73, 3) := by decide +kernel
theorem dX1_gatherGapsOf_59 : decode cX1_gatherGapsOf 59 = .ok (.aload 7, 2) := by decide +kernel
theorem dX1_gatherGapsOf_61 : decode cX1_gatherGapsOf 61 = .ok (.getfield 73, 3) := by decide +kernel
theorem dX1_gatherGapsOf_64 : decode cX1_gatherGapsOf 64 = .ok (.iload_n 2, 1) := by decide +kernel
theorem dX1_gatherGapsOf_65 : decode cX1_gatherGapsOf 65 = .ok (.if_icmp .ne 64, 3) := by decide +kernel
theorem dX1_gatherGapsOf_68 : decode cX1_gatherGapsOf 68 = .ok (.aload_n 1, 1) := by decide +kernel
theorem dX1_gatherGapsOf_69 : decode cX1_gatherGapsOf 69 = .ok (.aload 7, 2) := by decide +kernel
theorem dX1_gatherGapsOf_71 : decode cX1_gatherGapsOf 71 = .ok (.invokevirtual 85, 3) := by decide +kernel
theorem dX1_gatherGapsOf_74 : decode cX1_gatherGapsOf 74 = .ok (.ifCond .eq 55, 3) := by decide +kernel
theorem dX1_gatherGapsOf_77 : decode cX1_gatherGapsOf 77 = .ok (.aload_n 0, 1) := by decide +kernel
theorem dX1_gatherGapsOf_78 : decode cX1_gatherGapsOf 78 = .ok (.getfield 31, 3) := by decide +kernel
theorem dX1_gatherGapsOf_81 : decode cX1_gatherGapsOf 81 = .ok (.sipush 768, 3) := by decide +kernel
theorem dX1_gatherGapsOf_84 : decode cX1_gatherGapsOf 84 = .ok (.if_icmp .ge 45, 3) := by decide +kernel
theorem dX1_gatherGapsOf_87 : decode cX1_gatherGapsOf 87 = .ok (.aload_n 0, 1) := by decide +kernel
theorem dX1_gatherGapsOf_88 : decode cX1_gatherGapsOf 88 = .ok (.getfield 11, 3) := by decide +kernel
theorem dX1_gatherGapsOf_91 : decode cX1_gatherGapsOf 91 = .ok (.aload_n 0, 1) := by decide +kernel
theorem dX1_gatherGapsOf_92 : decode cX1_gatherGapsOf 92 = .ok (.getfield 31, 3) := by decide +kernel
theorem dX1_gatherGapsOf_95 : decode cX1_gatherGapsOf 95 = .ok (.aload 7, 2) := by decide +kernel
theorem dX1_gatherGapsOf_97 : decode cX1_gatherGapsOf 97 = .ok (.getfield 89, 3) := by decide +kernel
theorem dX1_gatherGapsOf_100 : decode cX1_gatherGapsOf 100 = .ok (.aload_n 1, 1) := by decide +kernel
theorem dX1_gatherGapsOf_101 : decode cX1_gatherGapsOf 101 = .ok (.getfield 89, 3) := by decide +kernel
theorem dX1_gatherGapsOf_104 : decode cX1_gatherGapsOf 104 = .ok (.lsub, 1) := by decide +kernel
theorem dX1_gatherGapsOf_105 : decode cX1_gatherGapsOf 105 = .ok (.lastore, 1) := by decide +kernel
theorem dX1_gatherGapsOf_106 : decode cX1_gatherGapsOf 106 = .ok (.aload_n 0, 1) := by decide +kernel
theorem dX1_gatherGapsOf_107 : decode cX1_gatherGapsOf 107 = .ok (.getfield 15, 3) := by decide +kernel
theorem dX1_gatherGapsOf_110 : decode cX1_gatherGapsOf 110 = .ok (.aload_n 0, 1) := by decide +kernel
theorem dX1_gatherGapsOf_111 : decode cX1_gatherGapsOf 111 = .ok (.getfield 31, 3) := by decide +kernel
theorem dX1_gatherGapsOf_114 : decode cX1_gatherGapsOf 114 = .ok (.aload_n 0, 1) := by decide +kernel
theorem dX1_gatherGapsOf_115 : decode cX1_gatherGapsOf 115 = .ok (.getfield 49, 3) := by decide +kernel
theorem dX1_gatherGapsOf_118 : decode cX1_gatherGapsOf 118 = .ok (.iastore, 1) := by decide +kernel
theorem dX1_gatherGapsOf_119 : decode cX1_gatherGapsOf 119 = .ok (.aload_n 0, 1) := by decide +kernel
theorem dX1_gatherGapsOf_120 : decode cX1_gatherGapsOf 120 = .ok (.dup, 1) := by decide +kernel
theorem dX1_gatherGapsOf_121 : decode cX1_gatherGapsOf 121 = .ok (.getfield 31, 3) := by decide +kernel
theorem dX1_gatherGapsOf_124 : decode cX1_gatherGapsOf 124 = .ok (.iconst 1, 1) := by decide +kernel
theorem dX1_gatherGapsOf_125 : decode cX1_gatherGapsOf 125 = .ok (.iadd, 1) := by decide +kernel
theorem dX1_gatherGapsOf_126 : decode cX1_gatherGapsOf 126 = .ok (.putfield 31, 3) := by decide +kernel
theorem dX1_gatherGapsOf_129 : decode cX1_gatherGapsOf 129 = .ok (.iinc 6 1, 3) := by decide +kernel
theorem dX1_gatherGapsOf_132 : decode cX1_gatherGapsOf 132 = .ok (.goto (-102), 3) := by decide +kernel
theorem dX1_gatherGapsOf_135 : decode cX1_gatherGapsOf 135 = .ok (.aload_n 0, 1) := by decide +kernel
theorem dX1_gatherGapsOf_136 : decode cX1_gatherGapsOf 136 = .ok (.dup, 1) := by decide +kernel
theorem dX1_gatherGapsOf_137 : decode cX1_gatherGapsOf 137 = .ok (.getfield 49, 3) := by decide +kernel
theorem dX1_gatherGapsOf_140 : decode cX1_gatherGapsOf 140 = .ok (.iconst 1, 1) := by decide +kernel
theorem dX1_gatherGapsOf_141 : decode cX1_gatherGapsOf 141 = .ok (.iadd, 1) := by decide +kernel
theorem dX1_gatherGapsOf_142 : decode cX1_gatherGapsOf 142 = .ok (.putfield 49, 3) := by decide +kernel
theorem dX1_gatherGapsOf_145 : decode cX1_gatherGapsOf 145 = .ok (.return_, 1) := by decide +kernel
theorem dX1_mostAgreeBy_0 : decode cX1_mostAgreeBy 0 = .ok (.iconst 0, 1) := by decide +kernel
theorem dX1_mostAgreeBy_1 : decode cX1_mostAgreeBy 1 = .ok (.istore 4, 2) := by decide +kernel
theorem dX1_mostAgreeBy_3 : decode cX1_mostAgreeBy 3 = .ok (.iconst (-1), 1) := by decide +kernel
theorem dX1_mostAgreeBy_4 : decode cX1_mostAgreeBy 4 = .ok (.istore 5, 2) := by decide +kernel
theorem dX1_mostAgreeBy_6 : decode cX1_mostAgreeBy 6 = .ok (.iconst 0, 1) := by decide +kernel
theorem dX1_mostAgreeBy_7 : decode cX1_mostAgreeBy 7 = .ok (.istore 6, 2) := by decide +kernel
theorem dX1_mostAgreeBy_9 : decode cX1_mostAgreeBy 9 = .ok (.iload 6, 2) := by decide +kernel
theorem dX1_mostAgreeBy_11 : decode cX1_mostAgreeBy 11 = .ok (.aload_n 0, 1) := by decide +kernel
theorem dX1_mostAgreeBy_12 : decode cX1_mostAgreeBy 12 = .ok (.getfield 31, 3) := by decide +kernel
theorem dX1_mostAgreeBy_15 : decode cX1_mostAgreeBy 15 = .ok (.if_icmp .ge 51, 3) := by decide +kernel
theorem dX1_mostAgreeBy_18 : decode cX1_mostAgreeBy 18 = .ok (.aload_n 0, 1) := by decide +kernel
theorem dX1_mostAgreeBy_19 : decode cX1_mostAgreeBy 19 = .ok (.getfield 15, 3) := by decide +kernel
theorem dX1_mostAgreeBy_22 : decode cX1_mostAgreeBy 22 = .ok (.iload 6, 2) := by decide +kernel
theorem dX1_mostAgreeBy_24 : decode cX1_mostAgreeBy 24 = .ok (.iaload, 1) := by decide +kernel
theorem dX1_mostAgreeBy_25 : decode cX1_mostAgreeBy 25 = .ok (.iload 5, 2) := by decide +kernel
theorem dX1_mostAgreeBy_27 : decode cX1_mostAgreeBy 27 = .ok (.if_icmp .eq 33, 3) := by decide +kernel
theorem dX1_mostAgreeBy_30 : decode cX1_mostAgreeBy 30 = .ok (.aload_n 0, 1) := by decide +kernel
theorem dX1_mostAgreeBy_31 : decode cX1_mostAgreeBy 31 = .ok (.getfield 11, 3) := by decide +kernel
theorem dX1_mostAgreeBy_34 : decode cX1_mostAgreeBy 34 = .ok (.iload 6, 2) := by decide +kernel
theorem dX1_mostAgreeBy_36 : decode cX1_mostAgreeBy 36 = .ok (.laload, 1) := by decide +kernel
theorem dX1_mostAgreeBy_37 : decode cX1_mostAgreeBy 37 = .ok (.lload_n 1, 1) := by decide +kernel
theorem dX1_mostAgreeBy_38 : decode cX1_mostAgreeBy 38 = .ok (.lsub, 1) := by decide +kernel
theorem dX1_mostAgreeBy_39 : decode cX1_mostAgreeBy 39 = .ok (.invokestatic 43, 3) := by decide +kernel
theorem dX1_mostAgreeBy_42 : decode cX1_mostAgreeBy 42 = .ok (.iload_n 3, 1) := by decide +kernel
theorem dX1_mostAgreeBy_43 : decode cX1_mostAgreeBy 43 = .ok (.i2l, 1) := by decide +kernel
theorem dX1_mostAgreeBy_44 : decode cX1_mostAgreeBy 44 = .ok (.lcmp, 1) := by decide +kernel
theorem dX1_mostAgreeBy_45 : decode cX1_mostAgreeBy 45 = .ok (.ifCond .gt 15, 3) := by decide +kernel
theorem dX1_mostAgreeBy_48 : decode cX1_mostAgreeBy 48 = .ok (.aload_n 0, 1) := by decide +kernel
theorem dX1_mostAgreeBy_49 : decode cX1_mostAgreeBy 49 = .ok (.getfield 15, 3) := by decide +kernel
theorem dX1_mostAgreeBy_52 : decode cX1_mostAgreeBy 52 = .ok (.iload 6, 2) := by decide +kernel
theorem dX1_mostAgreeBy_54 : decode cX1_mostAgreeBy 54 = .ok (.iaload, 1) := by decide +kernel
theorem dX1_mostAgreeBy_55 : decode cX1_mostAgreeBy 55 = .ok (.istore 5, 2) := by decide +kernel
theorem dX1_mostAgreeBy_57 : decode cX1_mostAgreeBy 57 = .ok (.iinc 4 1, 3) := by decide +kernel
theorem dX1_mostAgreeBy_60 : decode cX1_mostAgreeBy 60 = .ok (.iinc 6 1, 3) := by decide +kernel
theorem dX1_mostAgreeBy_63 : decode cX1_mostAgreeBy 63 = .ok (.goto (-54), 3) := by decide +kernel
theorem dX1_mostAgreeBy_66 : decode cX1_mostAgreeBy 66 = .ok (.iconst 2, 1) := by decide +kernel
theorem dX1_mostAgreeBy_67 : decode cX1_mostAgreeBy 67 = .ok (.iload 4, 2) := by decide +kernel
theorem dX1_mostAgreeBy_69 : decode cX1_mostAgreeBy 69 = .ok (.imul, 1) := by decide +kernel
theorem dX1_mostAgreeBy_70 : decode cX1_mostAgreeBy 70 = .ok (.aload_n 0, 1) := by decide +kernel
theorem dX1_mostAgreeBy_71 : decode cX1_mostAgreeBy 71 = .ok (.getfield 49, 3) := by decide +kernel
theorem dX1_mostAgreeBy_74 : decode cX1_mostAgreeBy 74 = .ok (.if_icmp .le 7, 3) := by decide +kernel
theorem dX1_mostAgreeBy_77 : decode cX1_mostAgreeBy 77 = .ok (.iconst 1, 1) := by decide +kernel
theorem dX1_mostAgreeBy_78 : decode cX1_mostAgreeBy 78 = .ok (.goto 4, 3) := by decide +kernel
theorem dX1_mostAgreeBy_81 : decode cX1_mostAgreeBy 81 = .ok (.iconst 0, 1) := by decide +kernel
theorem dX1_mostAgreeBy_82 : decode cX1_mostAgreeBy 82 = .ok (.ireturn, 1) := by decide +kernel
theorem dX2_init_0 : decode cX2_init 0 = .ok (.aload_n 0, 1) := by decide +kernel
theorem dX2_init_1 : decode cX2_init 1 = .ok (.invokespecial 3, 3) := by decide +kernel
theorem dX2_init_4 : decode cX2_init 4 = .ok (.return_, 1) := by decide +kernel
theorem dX2_copyLine_0 : decode cX2_copyLine 0 = .ok (.aload_n 0, 1) := by decide +kernel
theorem dX2_copyLine_1 : decode cX2_copyLine 1 = .ok (.aload_n 1, 1) := by decide +kernel
theorem dX2_copyLine_2 : decode cX2_copyLine 2 = .ok (.getfield 9, 3) := by decide +kernel
theorem dX2_copyLine_5 : decode cX2_copyLine 5 = .ok (.putfield 9, 3) := by decide +kernel
theorem dX2_copyLine_8 : decode cX2_copyLine 8 = .ok (.aload_n 0, 1) := by decide +kernel
theorem dX2_copyLine_9 : decode cX2_copyLine 9 = .ok (.aload_n 1, 1) := by decide +kernel
theorem dX2_copyLine_10 : decode cX2_copyLine 10 = .ok (.getfield 15, 3) := by decide +kernel
theorem dX2_copyLine_13 : decode cX2_copyLine 13 = .ok (.putfield 15, 3) := by decide +kernel
theorem dX2_copyLine_16 : decode cX2_copyLine 16 = .ok (.aload_n 0, 1) := by decide +kernel
theorem dX2_copyLine_17 : decode cX2_copyLine 17 = .ok (.aload_n 1, 1) := by decide +kernel
theorem dX2_copyLine_18 : decode cX2_copyLine 18 = .ok (.getfield 19, 3) := by decide +kernel
theorem dX2_copyLine_21 : decode cX2_copyLine 21 = .ok (.putfield 19, 3) := by decide +kernel
theorem dX2_copyLine_24 : decode cX2_copyLine 24 = .ok (.aload_n 0, 1) := by decide +kernel
theorem dX2_copyLine_25 : decode cX2_copyLine 25 = .ok (.aload_n 1, 1) := by decide +kernel
theorem dX2_copyLine_26 : decode cX2_copyLine 26 = .ok (.getfield 22, 3) := by decide +kernel
theorem dX2_copyLine_29 : decode cX2_copyLine 29 = .ok (.putfield 22, 3) := by decide +kernel
theorem dX2_copyLine_32 : decode cX2_copyLine 32 = .ok (.aload_n 0, 1) := by decide +kernel
theorem dX2_copyLine_33 : decode cX2_copyLine 33 = .ok (.aload_n 1, 1) := by decide +kernel
theorem dX2_copyLine_34 : decode cX2_copyLine 34 = .ok (.getfield 25, 3) := by decide +kernel
theorem dX2_copyLine_37 : decode cX2_copyLine 37 = .ok (.putfield 25, 3) := by decide +kernel
theorem dX2_copyLine_40 : decode cX2_copyLine 40 = .ok (.aload_n 0, 1) := by decide +kernel
theorem dX2_copyLine_41 : decode cX2_copyLine 41 = .ok (.aload_n 1, 1) := by decide +kernel
theorem dX2_copyLine_42 : decode cX2_copyLine 42 = .ok (.getfield 28, 3) := by decide +kernel
theorem dX2_copyLine_45 : decode cX2_copyLine 45 = .ok (.putfield 28, 3) := by decide +kernel
theorem dX2_copyLine_48 : decode cX2_copyLine 48 = .ok (.return_, 1) := by decide +kernel
theorem dX2_isComplete_0 : decode cX2_isComplete 0 = .ok (.aload_n 0, 1) := by decide +kernel
theorem dX2_isComplete_1 : decode cX2_isComplete 1 = .ok (.getfield 25, 3) := by decide +kernel
theorem dX2_isComplete_4 : decode cX2_isComplete 4 = .ok (.iconst (-1), 1) := by decide +kernel
theorem dX2_isComplete_5 : decode cX2_isComplete 5 = .ok (.if_icmp .eq 15, 3) := by decide +kernel
theorem dX2_isComplete_8 : decode cX2_isComplete 8 = .ok (.aload_n 0, 1) := by decide +kernel
theorem dX2_isComplete_9 : decode cX2_isComplete 9 = .ok (.getfield 28, 3) := by decide +kernel
theorem dX2_isComplete_12 : decode cX2_isComplete 12 = .ok (.iconst (-1), 1) := by decide +kernel
theorem dX2_isComplete_13 : decode cX2_isComplete 13 = .ok (.if_icmp .eq 7, 3) := by decide +kernel
theorem dX2_isComplete_16 : decode cX2_isComplete 16 = .ok (.iconst 1, 1) := by decide +kernel
theorem dX2_isComplete_17 : decode cX2_isComplete 17 = .ok (.goto 4, 3) := by decide +kernel
theorem dX2_isComplete_20 : decode cX2_isComplete 20 = .ok (.iconst 0, 1) := by decide +kernel
theorem dX2_isComplete_21 : decode cX2_isComplete 21 = .ok (.ireturn, 1) := by decide +kernel
theorem dX2_isPaired_0 : decode cX2_isPaired 0 = .ok (.aload_n 0, 1) := by decide +kernel
theorem dX2_isPaired_1 : decode cX2_isPaired 1 = .ok (.getfield 31, 3) := by decide +kernel
theorem dX2_isPaired_4 : decode cX2_isPaired 4 = .ok (.iconst (-1), 1) := by decide +kernel
theorem dX2_isPaired_5 : decode cX2_isPaired 5 = .ok (.if_icmp .eq 7, 3) := by decide +kernel
theorem dX2_isPaired_8 : decode cX2_isPaired 8 = .ok (.iconst 1, 1) := by decide +kernel
theorem dX2_isPaired_9 : decode cX2_isPaired 9 = .ok (.goto 4, 3) := by decide +kernel
theorem dX2_isPaired_12 : decode cX2_isPaired 12 = .ok (.iconst 0, 1) := by decide +kernel
theorem dX2_isPaired_13 : decode cX2_isPaired 13 = .ok (.ireturn, 1) := by decide +kernel
theorem dX2_answersTo_0 : decode cX2_answersTo 0 = .ok (.aload_n 0, 1) := by decide +kernel
theorem dX2_answersTo_1 : decode cX2_answersTo 1 = .ok (.getfield 25, 3) := by decide +kernel
theorem dX2_answersTo_4 : decode cX2_answersTo 4 = .ok (.iconst (-1), 1) := by decide +kernel
theorem dX2_answersTo_5 : decode cX2_answersTo 5 = .ok (.if_icmp .eq 37, 3) := by decide +kernel
theorem dX2_answersTo_8 : decode cX2_answersTo 8 = .ok (.aload_n 0, 1) := by decide +kernel
theorem dX2_answersTo_9 : decode cX2_answersTo 9 = .ok (.getfield 28, 3) := by decide +kernel
theorem dX2_answersTo_12 : decode cX2_answersTo 12 = .ok (.iconst (-1), 1) := by decide +kernel
theorem dX2_answersTo_13 : decode cX2_answersTo 13 = .ok (.if_icmp .eq 29, 3) := by decide +kernel
theorem dX2_answersTo_16 : decode cX2_answersTo 16 = .ok (.aload_n 0, 1) := by decide +kernel
theorem dX2_answersTo_17 : decode cX2_answersTo 17 = .ok (.getfield 28, 3) := by decide +kernel
theorem dX2_answersTo_20 : decode cX2_answersTo 20 = .ok (.aload_n 1, 1) := by decide +kernel
theorem dX2_answersTo_21 : decode cX2_answersTo 21 = .ok (.getfield 25, 3) := by decide +kernel
theorem dX2_answersTo_24 : decode cX2_answersTo 24 = .ok (.if_icmp .ne 18, 3) := by decide +kernel
theorem dX2_answersTo_27 : decode cX2_answersTo 27 = .ok (.aload_n 0, 1) := by decide +kernel
theorem dX2_answersTo_28 : decode cX2_answersTo 28 = .ok (.getfield 25, 3) := by decide +kernel
theorem dX2_answersTo_31 : decode cX2_answersTo 31 = .ok (.aload_n 1, 1) := by decide +kernel
theorem dX2_answersTo_32 : decode cX2_answersTo 32 = .ok (.getfield 28, 3) := by decide +kernel
theorem dX2_answersTo_35 : decode cX2_answersTo 35 = .ok (.if_icmp .ne 7, 3) := by decide +kernel
theorem dX2_answersTo_38 : decode cX2_answersTo 38 = .ok (.iconst 1, 1) := by decide +kernel
theorem dX2_answersTo_39 : decode cX2_answersTo 39 = .ok (.goto 4, 3) := by decide +kernel
theorem dX2_answersTo_42 : decode cX2_answersTo 42 = .ok (.iconst 0, 1) := by decide +kernel
theorem dX2_answersTo_43 : decode cX2_answersTo 43 = .ok (.ireturn, 1) := by decide +kernel
theorem dX2_callLength_0 : decode cX2_callLength 0 = .ok (.iconst 0, 1) := by decide +kernel
theorem dX2_callLength_1 : decode cX2_callLength 1 = .ok (.istore_n 1, 1) := by decide +kernel
theorem dX2_callLength_2 : decode cX2_callLength 2 = .ok (.iload_n 1, 1) := by decide +kernel
theorem dX2_callLength_3 : decode cX2_callLength 3 = .ok (.bipush 6, 2) := by decide +kernel
theorem dX2_callLength_5 : decode cX2_callLength 5 = .ok (.if_icmp .ge 23, 3) := by decide +kernel
theorem dX2_callLength_8 : decode cX2_callLength 8 = .ok (.aload_n 0, 1) := by decide +kernel
theorem dX2_callLength_9 : decode cX2_callLength 9 = .ok (.getfield 22, 3) := by decide +kernel
theorem dX2_callLength_12 : decode cX2_callLength 12 = .ok (.bipush 8, 2) := by decide +kernel
theorem dX2_callLength_14 : decode cX2_callLength 14 = .ok (.iload_n 1, 1) := by decide +kernel
theorem dX2_callLength_15 : decode cX2_callLength 15 = .ok (.imul, 1) := by decide +kernel
theorem dX2_callLength_16 : decode cX2_callLength 16 = .ok (.lushr, 1) := by decide +kernel
theorem dX2_callLength_17 : decode cX2_callLength 17 = .ok (.lconst 0, 1) := by decide +kernel
theorem dX2_callLength_18 : decode cX2_callLength 18 = .ok (.lcmp, 1) := by decide +kernel
theorem dX2_callLength_19 : decode cX2_callLength 19 = .ok (.ifCond .eq 9, 3) := by decide +kernel
theorem dX2_callLength_22 : decode cX2_callLength 22 = .ok (.iinc 1 1, 3) := by decide +kernel
theorem dX2_callLength_25 : decode cX2_callLength 25 = .ok (.goto (-23), 3) := by decide +kernel
theorem dX2_callLength_28 : decode cX2_callLength 28 = .ok (.iload_n 1, 1) := by decide +kernel
theorem dX2_callLength_29 : decode cX2_callLength 29 = .ok (.ireturn, 1) := by decide +kernel
theorem dX2_callCharacter_0 : decode cX2_callCharacter 0 = .ok (.aload_n 0, 1) := by decide +kernel
theorem dX2_callCharacter_1 : decode cX2_callCharacter 1 = .ok (.getfield 22, 3) := by decide +kernel
theorem dX2_callCharacter_4 : decode cX2_callCharacter 4 = .ok (.bipush 8, 2) := by decide +kernel
theorem dX2_callCharacter_6 : decode cX2_callCharacter 6 = .ok (.aload_n 0, 1) := by decide +kernel
theorem dX2_callCharacter_7 : decode cX2_callCharacter 7 = .ok (.invokevirtual 34, 3) := by decide +kernel
theorem dX2_callCharacter_10 : decode cX2_callCharacter 10 = .ok (.iconst 1, 1) := by decide +kernel
theorem dX2_callCharacter_11 : decode cX2_callCharacter 11 = .ok (.isub, 1) := by decide +kernel
theorem dX2_callCharacter_12 : decode cX2_callCharacter 12 = .ok (.iload_n 1, 1) := by decide +kernel
theorem dX2_callCharacter_13 : decode cX2_callCharacter 13 = .ok (.isub, 1) := by decide +kernel
theorem dX2_callCharacter_14 : decode cX2_callCharacter 14 = .ok (.imul, 1) := by decide +kernel
theorem dX2_callCharacter_15 : decode cX2_callCharacter 15 = .ok (.lushr, 1) := by decide +kernel
theorem dX2_callCharacter_16 : decode cX2_callCharacter 16 = .ok (.l2i, 1) := by decide +kernel
theorem dX2_callCharacter_17 : decode cX2_callCharacter 17 = .ok (.sipush 255, 3) := by decide +kernel
theorem dX2_callCharacter_20 : decode cX2_callCharacter 20 = .ok (.iand, 1) := by decide +kernel
theorem dX2_callCharacter_21 : decode cX2_callCharacter 21 = .ok (.ireturn, 1) := by decide +kernel
theorem dX2_isMisheardFrom_0 : decode cX2_isMisheardFrom 0 = .ok (.iconst 0, 1) := by decide +kernel
theorem dX2_isMisheardFrom_1 : decode cX2_isMisheardFrom 1 = .ok (.istore_n 3, 1) := by decide +kernel
theorem dX2_isMisheardFrom_2 : decode cX2_isMisheardFrom 2 = .ok (.iconst 0, 1) := by decide +kernel
theorem dX2_isMisheardFrom_3 : decode cX2_isMisheardFrom 3 = .ok (.istore 4, 2) := by decide +kernel
theorem dX2_isMisheardFrom_5 : decode cX2_isMisheardFrom 5 = .ok (.iload 4, 2) := by decide +kernel
theorem dX2_isMisheardFrom_7 : decode cX2_isMisheardFrom 7 = .ok (.bipush 48, 2) := by decide +kernel
theorem dX2_isMisheardFrom_9 : decode cX2_isMisheardFrom 9 = .ok (.if_icmp .ge 72, 3) := by decide +kernel
theorem dX2_isMisheardFrom_12 : decode cX2_isMisheardFrom 12 = .ok (.aload_n 0, 1) := by decide +kernel
theorem dX2_isMisheardFrom_13 : decode cX2_isMisheardFrom 13 = .ok (.getfield 22, 3) := by decide +kernel
theorem dX2_isMisheardFrom_16 : decode cX2_isMisheardFrom 16 = .ok (.iload 4, 2) := by decide +kernel
theorem dX2_isMisheardFrom_18 : decode cX2_isMisheardFrom 18 = .ok (.lushr, 1) := by decide +kernel
theorem dX2_isMisheardFrom_19 : decode cX2_isMisheardFrom 19 = .ok (.ldc2_w 38, 3) := by decide +kernel
theorem dX2_isMisheardFrom_22 : decode cX2_isMisheardFrom 22 = .ok (.land, 1) := by decide +kernel
theorem dX2_isMisheardFrom_23 : decode cX2_isMisheardFrom 23 = .ok (.lstore 5, 2) := by decide +kernel
theorem dX2_isMisheardFrom_25 : decode cX2_isMisheardFrom 25 = .ok (.lload_n 1, 1) := by decide +kernel
theorem dX2_isMisheardFrom_26 : decode cX2_isMisheardFrom 26 = .ok (.iload 4, 2) := by decide +kernel
theorem dX2_isMisheardFrom_28 : decode cX2_isMisheardFrom 28 = .ok (.lushr, 1) := by decide +kernel
theorem dX2_isMisheardFrom_29 : decode cX2_isMisheardFrom 29 = .ok (.ldc2_w 38, 3) := by decide +kernel
theorem dX2_isMisheardFrom_32 : decode cX2_isMisheardFrom 32 = .ok (.land, 1) := by decide +kernel
theorem dX2_isMisheardFrom_33 : decode cX2_isMisheardFrom 33 = .ok (.lstore 7, 2) := by decide +kernel
theorem dX2_isMisheardFrom_35 : decode cX2_isMisheardFrom 35 = .ok (.lload 5, 2) := by decide +kernel
theorem dX2_isMisheardFrom_37 : decode cX2_isMisheardFrom 37 = .ok (.lload 7, 2) := by decide +kernel
theorem dX2_isMisheardFrom_39 : decode cX2_isMisheardFrom 39 = .ok (.lcmp, 1) := by decide +kernel
theorem dX2_isMisheardFrom_40 : decode cX2_isMisheardFrom 40 = .ok (.ifCond .eq 6, 3) := by decide +kernel
theorem dX2_isMisheardFrom_43 : decode cX2_isMisheardFrom 43 = .ok (.iinc 3 1, 3) := by decide +kernel
theorem dX2_isMisheardFrom_46 : decode cX2_isMisheardFrom 46 = .ok (.lload 5, 2) := by decide +kernel
theorem dX2_isMisheardFrom_48 : decode cX2_isMisheardFrom 48 = .ok (.lconst 0, 1) := by decide +kernel
theorem dX2_isMisheardFrom_49 : decode cX2_isMisheardFrom 49 = .ok (.lcmp, 1) := by decide +kernel
theorem dX2_isMisheardFrom_50 : decode cX2_isMisheardFrom 50 = .ok (.ifCond .ne 7, 3) := by decide +kernel
theorem dX2_isMisheardFrom_53 : decode cX2_isMisheardFrom 53 = .ok (.iconst 1, 1) := by decide +kernel
theorem dX2_isMisheardFrom_54 : decode cX2_isMisheardFrom 54 = .ok (.goto 4, 3) := by decide +kernel
theorem dX2_isMisheardFrom_57 : decode cX2_isMisheardFrom 57 = .ok (.iconst 0, 1) := by decide +kernel
theorem dX2_isMisheardFrom_58 : decode cX2_isMisheardFrom 58 = .ok (.lload 7, 2) := by decide +kernel
theorem dX2_isMisheardFrom_60 : decode cX2_isMisheardFrom 60 = .ok (.lconst 0, 1) := by decide +kernel
theorem dX2_isMisheardFrom_61 : decode cX2_isMisheardFrom 61 = .ok (.lcmp, 1) := by decide +kernel
theorem dX2_isMisheardFrom_62 : decode cX2_isMisheardFrom 62 = .ok (.ifCond .ne 7, 3) := by decide +kernel
theorem dX2_isMisheardFrom_65 : decode cX2_isMisheardFrom 65 = .ok (.iconst 1, 1) := by decide +kernel
theorem dX2_isMisheardFrom_66 : decode cX2_isMisheardFrom 66 = .ok (.goto 4, 3) := by decide +kernel
theorem dX2_isMisheardFrom_69 : decode cX2_isMisheardFrom 69 = .ok (.iconst 0, 1) := by decide +kernel
theorem dX2_isMisheardFrom_70 : decode cX2_isMisheardFrom 70 = .ok (.if_icmp .eq 5, 3) := by decide +kernel
theorem dX2_isMisheardFrom_73 : decode cX2_isMisheardFrom 73 = .ok (.iconst 0, 1) := by decide +kernel
theorem dX2_isMisheardFrom_74 : decode cX2_isMisheardFrom 74 = .ok (.ireturn, 1) := by decide +kernel
theorem dX2_isMisheardFrom_75 : decode cX2_isMisheardFrom 75 = .ok (.iinc 4 8, 3) := by decide +kernel
theorem dX2_isMisheardFrom_78 : decode cX2_isMisheardFrom 78 = .ok (.goto (-73), 3) := by decide +kernel
theorem dX2_isMisheardFrom_81 : decode cX2_isMisheardFrom 81 = .ok (.iload_n 3, 1) := by decide +kernel
theorem dX2_isMisheardFrom_82 : decode cX2_isMisheardFrom 82 = .ok (.iconst 1, 1) := by decide +kernel
theorem dX2_isMisheardFrom_83 : decode cX2_isMisheardFrom 83 = .ok (.if_icmp .ne 7, 3) := by decide +kernel
theorem dX2_isMisheardFrom_86 : decode cX2_isMisheardFrom 86 = .ok (.iconst 1, 1) := by decide +kernel
theorem dX2_isMisheardFrom_87 : decode cX2_isMisheardFrom 87 = .ok (.goto 4, 3) := by decide +kernel
theorem dX2_isMisheardFrom_90 : decode cX2_isMisheardFrom 90 = .ok (.iconst 0, 1) := by decide +kernel
theorem dX2_isMisheardFrom_91 : decode cX2_isMisheardFrom 91 = .ok (.ireturn, 1) := by decide +kernel
theorem dX3_init_0 : decode cX3_init 0 = .ok (.aload_n 0, 1) := by decide +kernel
theorem dX3_init_1 : decode cX3_init 1 = .ok (.invokespecial 3, 3) := by decide +kernel
theorem dX3_init_4 : decode cX3_init 4 = .ok (.aload_n 0, 1) := by decide +kernel
theorem dX3_init_5 : decode cX3_init 5 = .ok (.bipush 30, 2) := by decide +kernel
theorem dX3_init_7 : decode cX3_init 7 = .ok (.newarray .int, 2) := by decide +kernel
theorem dX3_init_9 : decode cX3_init 9 = .ok (.putfield 11, 3) := by decide +kernel
theorem dX3_init_12 : decode cX3_init 12 = .ok (.aload_n 0, 1) := by decide +kernel
theorem dX3_init_13 : decode cX3_init 13 = .ok (.bipush 30, 2) := by decide +kernel
theorem dX3_init_15 : decode cX3_init 15 = .ok (.newarray .int, 2) := by decide +kernel
theorem dX3_init_17 : decode cX3_init 17 = .ok (.putfield 15, 3) := by decide +kernel
theorem dX3_init_20 : decode cX3_init 20 = .ok (.aload_n 0, 1) := by decide +kernel
theorem dX3_init_21 : decode cX3_init 21 = .ok (.bipush 9, 2) := by decide +kernel
theorem dX3_init_23 : decode cX3_init 23 = .ok (.newarray .int, 2) := by decide +kernel
theorem dX3_init_25 : decode cX3_init 25 = .ok (.putfield 18, 3) := by decide +kernel
theorem dX3_init_28 : decode cX3_init 28 = .ok (.aload_n 0, 1) := by decide +kernel
theorem dX3_init_29 : decode cX3_init 29 = .ok (.bipush 30, 2) := by decide +kernel
theorem dX3_init_31 : decode cX3_init 31 = .ok (.newarray .long, 2) := by decide +kernel
theorem dX3_init_33 : decode cX3_init 33 = .ok (.putfield 21, 3) := by decide +kernel
theorem dX3_init_36 : decode cX3_init 36 = .ok (.aload_n 0, 1) := by decide +kernel
theorem dX3_init_37 : decode cX3_init 37 = .ok (.getfield 11, 3) := by decide +kernel
theorem dX3_init_40 : decode cX3_init 40 = .ok (.iconst 0, 1) := by decide +kernel
theorem dX3_init_41 : decode cX3_init 41 = .ok (.iconst 1, 1) := by decide +kernel
theorem dX3_init_42 : decode cX3_init 42 = .ok (.iastore, 1) := by decide +kernel
theorem dX3_init_43 : decode cX3_init 43 = .ok (.aload_n 0, 1) := by decide +kernel
theorem dX3_init_44 : decode cX3_init 44 = .ok (.iconst 1, 1) := by decide +kernel
theorem dX3_init_45 : decode cX3_init 45 = .ok (.putfield 25, 3) := by decide +kernel
theorem dX3_init_48 : decode cX3_init 48 = .ok (.return_, 1) := by decide +kernel
theorem dX3_read_0 : decode cX3_read 0 = .ok (.aload_n 1, 1) := by decide +kernel
theorem dX3_read_1 : decode cX3_read 1 = .ok (.iconst 0, 1) := by decide +kernel
theorem dX3_read_2 : decode cX3_read 2 = .ok (.aload_n 1, 1) := by decide +kernel
theorem dX3_read_3 : decode cX3_read 3 = .ok (.getfield 29, 3) := by decide +kernel
theorem dX3_read_6 : decode cX3_read 6 = .ok (.invokevirtual 32, 3) := by decide +kernel
theorem dX3_read_9 : decode cX3_read 9 = .ok (.aload_n 0, 1) := by decide +kernel
theorem dX3_read_10 : decode cX3_read 10 = .ok (.iconst 0, 1) := by decide +kernel
theorem dX3_read_11 : decode cX3_read 11 = .ok (.putfield 36, 3) := by decide +kernel
theorem dX3_read_14 : decode cX3_read 14 = .ok (.aload_n 0, 1) := by decide +kernel
theorem dX3_read_15 : decode cX3_read 15 = .ok (.getfield 18, 3) := by decide +kernel
theorem dX3_read_18 : decode cX3_read 18 = .ok (.iconst 0, 1) := by decide +kernel
theorem dX3_read_19 : decode cX3_read 19 = .ok (.iconst 1, 1) := by decide +kernel
theorem dX3_read_20 : decode cX3_read 20 = .ok (.iastore, 1) := by decide +kernel
theorem dX3_read_21 : decode cX3_read 21 = .ok (.iconst 0, 1) := by decide +kernel
theorem dX3_read_22 : decode cX3_read 22 = .ok (.istore_n 2, 1) := by decide +kernel
theorem dX3_read_23 : decode cX3_read 23 = .ok (.iload_n 2, 1) := by decide +kernel
theorem dX3_read_24 : decode cX3_read 24 = .ok (.bipush 30, 2) := by decide +kernel
theorem dX3_read_26 : decode cX3_read 26 = .ok (.if_icmp .gt 41, 3) := by decide +kernel
theorem dX3_read_29 : decode cX3_read 29 = .ok (.aload_n 1, 1) := by decide +kernel
theorem dX3_read_30 : decode cX3_read 30 = .ok (.invokevirtual 39, 3) := by decide +kernel
theorem dX3_read_33 : decode cX3_read 33 = .ok (.ifCond .eq 34, 3) := by decide +kernel
theorem dX3_read_36 : decode cX3_read 36 = .ok (.iload_n 2, 1) := by decide +kernel
theorem dX3_read_37 : decode cX3_read 37 = .ok (.bipush 30, 2) := by decide +kernel
theorem dX3_read_39 : decode cX3_read 39 = .ok (.if_icmp .eq 15, 3) := by decide +kernel
theorem dX3_read_42 : decode cX3_read 42 = .ok (.aload_n 0, 1) := by decide +kernel
theorem dX3_read_43 : decode cX3_read 43 = .ok (.iload_n 2, 1) := by decide +kernel
theorem dX3_read_44 : decode cX3_read 44 = .ok (.aload_n 1, 1) := by decide +kernel
theorem dX3_read_45 : decode cX3_read 45 = .ok (.invokestatic 43, 3) := by decide +kernel
theorem dX3_read_48 : decode cX3_read 48 = .ok (.invokevirtual 47, 3) := by decide +kernel
theorem dX3_read_51 : decode cX3_read 51 = .ok (.ifCond .ne 10, 3) := by decide +kernel
theorem dX3_read_54 : decode cX3_read 54 = .ok (.iconst (-1), 1) := by decide +kernel
theorem dX3_read_55 : decode cX3_read 55 = .ok (.aload_n 1, 1) := by decide +kernel
theorem dX3_read_56 : decode cX3_read 56 = .ok (.getfield 51, 3) := by decide +kernel
theorem dX3_read_59 : decode cX3_read 59 = .ok (.isub, 1) := by decide +kernel
theorem dX3_read_60 : decode cX3_read 60 = .ok (.ireturn, 1) := by decide +kernel
theorem dX3_read_61 : decode cX3_read 61 = .ok (.iinc 2 1, 3) := by decide +kernel
theorem dX3_read_64 : decode cX3_read 64 = .ok (.goto (-41), 3) := by decide +kernel
theorem dX3_read_67 : decode cX3_read 67 = .ok (.aload_n 0, 1) := by decide +kernel
theorem dX3_read_68 : decode cX3_read 68 = .ok (.getfield 18, 3) := by decide +kernel
theorem dX3_read_71 : decode cX3_read 71 = .ok (.iconst 0, 1) := by decide +kernel
theorem dX3_read_72 : decode cX3_read 72 = .ok (.iaload, 1) := by decide +kernel
theorem dX3_read_73 : decode cX3_read 73 = .ok (.ifCond .le 10, 3) := by decide +kernel
theorem dX3_read_76 : decode cX3_read 76 = .ok (.iconst (-1), 1) := by decide +kernel
theorem dX3_read_77 : decode cX3_read 77 = .ok (.aload_n 1, 1) := by decide +kernel
theorem dX3_read_78 : decode cX3_read 78 = .ok (.getfield 29, 3) := by decide +kernel
theorem dX3_read_81 : decode cX3_read 81 = .ok (.isub, 1) := by decide +kernel
theorem dX3_read_82 : decode cX3_read 82 = .ok (.ireturn, 1) := by decide +kernel
theorem dX3_read_83 : decode cX3_read 83 = .ok (.aload_n 0, 1) := by decide +kernel
theorem dX3_read_84 : decode cX3_read 84 = .ok (.iload_n 2, 1) := by decide +kernel
theorem dX3_read_85 : decode cX3_read 85 = .ok (.invokevirtual 54, 3) := by decide +kernel
theorem dX3_read_88 : decode cX3_read 88 = .ok (.iload_n 2, 1) := by decide +kernel
theorem dX3_read_89 : decode cX3_read 89 = .ok (.ireturn, 1) := by decide +kernel
theorem dX3_takeDraft_0 : decode cX3_takeDraft 0 = .ok (.aload_n 0, 1) := by decide +kernel
theorem dX3_takeDraft_1 : decode cX3_takeDraft 1 = .ok (.getfield 11, 3) := by decide +kernel
theorem dX3_takeDraft_4 : decode cX3_takeDraft 4 = .ok (.astore_n 2, 1) := by decide +kernel
theorem dX3_takeDraft_5 : decode cX3_takeDraft 5 = .ok (.aload_n 0, 1) := by decide +kernel
theorem dX3_takeDraft_6 : decode cX3_takeDraft 6 = .ok (.aload_n 0, 1) := by decide +kernel
theorem dX3_takeDraft_7 : decode cX3_takeDraft 7 = .ok (.getfield 15, 3) := by decide +kernel
theorem dX3_takeDraft_10 : decode cX3_takeDraft 10 = .ok (.putfield 11, 3) := by decide +kernel
theorem dX3_takeDraft_13 : decode cX3_takeDraft 13 = .ok (.aload_n 0, 1) := by decide +kernel
theorem dX3_takeDraft_14 : decode cX3_takeDraft 14 = .ok (.aload_n 2, 1) := by decide +kernel
theorem dX3_takeDraft_15 : decode cX3_takeDraft 15 = .ok (.putfield 15, 3) := by decide +kernel
theorem dX3_takeDraft_18 : decode cX3_takeDraft 18 = .ok (.aload_n 0, 1) := by decide +kernel
theorem dX3_takeDraft_19 : decode cX3_takeDraft 19 = .ok (.iload_n 1, 1) := by decide +kernel
theorem dX3_takeDraft_20 : decode cX3_takeDraft 20 = .ok (.putfield 25, 3) := by decide +kernel
theorem dX3_takeDraft_23 : decode cX3_takeDraft 23 = .ok (.return_, 1) := by decide +kernel
theorem dX3_codeOf_0 : decode cX3_codeOf 0 = .ok (.aload_n 0, 1) := by decide +kernel
theorem dX3_codeOf_1 : decode cX3_codeOf 1 = .ok (.iconst 4, 1) := by decide +kernel
theorem dX3_codeOf_2 : decode cX3_codeOf 2 = .ok (.invokevirtual 58, 3) := by decide +kernel
theorem dX3_codeOf_5 : decode cX3_codeOf 5 = .ok (.lstore_n 1, 1) := by decide +kernel
theorem dX3_codeOf_6 : decode cX3_codeOf 6 = .ok (.lload_n 1, 1) := by decide +kernel
theorem dX3_codeOf_7 : decode cX3_codeOf 7 = .ok (.ldc2_w 62, 3) := by decide +kernel
theorem dX3_codeOf_10 : decode cX3_codeOf 10 = .ok (.lcmp, 1) := by decide +kernel
theorem dX3_codeOf_11 : decode cX3_codeOf 11 = .ok (.ifCond .eq 6, 3) := by decide +kernel
theorem dX3_codeOf_14 : decode cX3_codeOf 14 = .ok (.lload_n 1, 1) := by decide +kernel
theorem dX3_codeOf_15 : decode cX3_codeOf 15 = .ok (.l2i, 1) := by decide +kernel
theorem dX3_codeOf_16 : decode cX3_codeOf 16 = .ok (.ireturn, 1) := by decide +kernel
theorem dX3_codeOf_17 : decode cX3_codeOf 17 = .ok (.aload_n 0, 1) := by decide +kernel
theorem dX3_codeOf_18 : decode cX3_codeOf 18 = .ok (.ldc 64, 2) := by decide +kernel
theorem dX3_codeOf_20 : decode cX3_codeOf 20 = .ok (.invokevirtual 66, 3) := by decide +kernel
theorem dX3_codeOf_23 : decode cX3_codeOf 23 = .ok (.ifCond .eq 7, 3) := by decide +kernel
theorem dX3_codeOf_26 : decode cX3_codeOf 26 = .ok (.iconst (-1), 1) := by decide +kernel
theorem dX3_codeOf_27 : decode cX3_codeOf 27 = .ok (.goto 131, 3) := by decide +kernel
theorem dX3_codeOf_30 : decode cX3_codeOf 30 = .ok (.aload_n 0, 1) := by decide +kernel
theorem dX3_codeOf_31 : decode cX3_codeOf 31 = .ok (.ldc 70, 2) := by decide +kernel
theorem dX3_codeOf_33 : decode cX3_codeOf 33 = .ok (.invokevirtual 66, 3) := by decide +kernel
theorem dX3_codeOf_36 : decode cX3_codeOf 36 = .ok (.ifCond .eq 8, 3) := by decide +kernel
theorem dX3_codeOf_39 : decode cX3_codeOf 39 = .ok (.bipush (-2), 2) := by decide +kernel
theorem dX3_codeOf_41 : decode cX3_codeOf 41 = .ok (.goto 117, 3) := by decide +kernel
theorem dX3_codeOf_44 : decode cX3_codeOf 44 = .ok (.aload_n 0, 1) := by decide +kernel
theorem dX3_codeOf_45 : decode cX3_codeOf 45 = .ok (.ldc 72, 2) := by decide +kernel
theorem dX3_codeOf_47 : decode cX3_codeOf 47 = .ok (.invokevirtual 66, 3) := by decide +kernel
theorem dX3_codeOf_50 : decode cX3_codeOf 50 = .ok (.ifCond .eq 8, 3) := by decide +kernel
theorem dX3_codeOf_53 : decode cX3_codeOf 53 = .ok (.bipush (-3), 2) := by decide +kernel
theorem dX3_codeOf_55 : decode cX3_codeOf 55 = .ok (.goto 103, 3) := by decide +kernel
theorem dX3_codeOf_58 : decode cX3_codeOf 58 = .ok (.aload_n 0, 1) := by decide +kernel
theorem dX3_codeOf_59 : decode cX3_codeOf 59 = .ok (.ldc 74, 2) := by decide +kernel
theorem dX3_codeOf_61 : decode cX3_codeOf 61 = .ok (.invokevirtual 66, 3) := by decide +kernel
theorem dX3_codeOf_64 : decode cX3_codeOf 64 = .ok (.ifCond .eq 8, 3) := by decide +kernel
theorem dX3_codeOf_67 : decode cX3_codeOf 67 = .ok (.bipush (-4), 2) := by decide +kernel
theorem dX3_codeOf_69 : decode cX3_codeOf 69 = .ok (.goto 89, 3) := by decide +kernel
theorem dX3_codeOf_72 : decode cX3_codeOf 72 = .ok (.aload_n 0, 1) := by decide +kernel
theorem dX3_codeOf_73 : decode cX3_codeOf 73 = .ok (.ldc 76, 2) := by decide +kernel
theorem dX3_codeOf_75 : decode cX3_codeOf 75 = .ok (.invokevirtual 66, 3) := by decide +kernel
theorem dX3_codeOf_78 : decode cX3_codeOf 78 = .ok (.ifCond .eq 8, 3) := by decide +kernel
theorem dX3_codeOf_81 : decode cX3_codeOf 81 = .ok (.bipush (-5), 2) := by decide +kernel
theorem dX3_codeOf_83 : decode cX3_codeOf 83 = .ok (.goto 75, 3) := by decide +kernel
theorem dX3_codeOf_86 : decode cX3_codeOf 86 = .ok (.aload_n 0, 1) := by decide +kernel
theorem dX3_codeOf_87 : decode cX3_codeOf 87 = .ok (.ldc 78, 2) := by decide +kernel
theorem dX3_codeOf_89 : decode cX3_codeOf 89 = .ok (.invokevirtual 66, 3) := by decide +kernel
theorem dX3_codeOf_92 : decode cX3_codeOf 92 = .ok (.ifCond .eq 8, 3) := by decide +kernel
theorem dX3_codeOf_95 : decode cX3_codeOf 95 = .ok (.bipush (-6), 2) := by decide +kernel
theorem dX3_codeOf_97 : decode cX3_codeOf 97 = .ok (.goto 61, 3) := by decide +kernel
theorem dX3_codeOf_100 : decode cX3_codeOf 100 = .ok (.aload_n 0, 1) := by decide +kernel
theorem dX3_codeOf_101 : decode cX3_codeOf 101 = .ok (.ldc 80, 2) := by decide +kernel
theorem dX3_codeOf_103 : decode cX3_codeOf 103 = .ok (.invokevirtual 66, 3) := by decide +kernel
theorem dX3_codeOf_106 : decode cX3_codeOf 106 = .ok (.ifCond .eq 8, 3) := by decide +kernel
theorem dX3_codeOf_109 : decode cX3_codeOf 109 = .ok (.bipush (-7), 2) := by decide +kernel
theorem dX3_codeOf_111 : decode cX3_codeOf 111 = .ok (.goto 47, 3) := by decide +kernel
theorem dX3_codeOf_114 : decode cX3_codeOf 114 = .ok (.aload_n 0, 1) := by decide +kernel
theorem dX3_codeOf_115 : decode cX3_codeOf 115 = .ok (.ldc 82, 2) := by decide +kernel
theorem dX3_codeOf_117 : decode cX3_codeOf 117 = .ok (.invokevirtual 66, 3) := by decide +kernel
theorem dX3_codeOf_120 : decode cX3_codeOf 120 = .ok (.ifCond .eq 8, 3) := by decide +kernel
theorem dX3_codeOf_123 : decode cX3_codeOf 123 = .ok (.bipush (-8), 2) := by decide +kernel
theorem dX3_codeOf_125 : decode cX3_codeOf 125 = .ok (.goto 33, 3) := by decide +kernel
theorem dX3_codeOf_128 : decode cX3_codeOf 128 = .ok (.aload_n 0, 1) := by decide +kernel
theorem dX3_codeOf_129 : decode cX3_codeOf 129 = .ok (.ldc 84, 2) := by decide +kernel
theorem dX3_codeOf_131 : decode cX3_codeOf 131 = .ok (.invokevirtual 66, 3) := by decide +kernel
theorem dX3_codeOf_134 : decode cX3_codeOf 134 = .ok (.ifCond .eq 8, 3) := by decide +kernel
theorem dX3_codeOf_137 : decode cX3_codeOf 137 = .ok (.bipush (-9), 2) := by decide +kernel
theorem dX3_codeOf_139 : decode cX3_codeOf 139 = .ok (.goto 19, 3) := by decide +kernel
theorem dX3_codeOf_142 : decode cX3_codeOf 142 = .ok (.aload_n 0, 1) := by decide +kernel
theorem dX3_codeOf_143 : decode cX3_codeOf 143 = .ok (.ldc 86, 2) := by decide +kernel
theorem dX3_codeOf_145 : decode cX3_codeOf 145 = .ok (.invokevirtual 66, 3) := by decide +kernel
theorem dX3_codeOf_148 : decode cX3_codeOf 148 = .ok (.ifCond .eq 8, 3) := by decide +kernel
theorem dX3_codeOf_151 : decode cX3_codeOf 151 = .ok (.bipush (-10), 2) := by decide +kernel
theorem dX3_codeOf_153 : decode cX3_codeOf 153 = .ok (.goto 5, 3) := by decide +kernel
theorem dX3_codeOf_156 : decode cX3_codeOf 156 = .ok (.bipush (-11), 2) := by decide +kernel
theorem dX3_codeOf_158 : decode cX3_codeOf 158 = .ok (.ireturn, 1) := by decide +kernel
theorem dX3_operandsOf_0 : decode cX3_operandsOf 0 = .ok (.iload_n 0, 1) := by decide +kernel
theorem dX3_operandsOf_1 : decode cX3_operandsOf 1 = .ok (.bipush (-10), 2) := by decide +kernel
theorem dX3_operandsOf_3 : decode cX3_operandsOf 3 = .ok (.if_icmp .ne 5, 3) := by decide +kernel
theorem dX3_operandsOf_6 : decode cX3_operandsOf 6 = .ok (.iconst 3, 1) := by decide +kernel
theorem dX3_operandsOf_7 : decode cX3_operandsOf 7 = .ok (.ireturn, 1) := by decide +kernel
theorem dX3_operandsOf_8 : decode cX3_operandsOf 8 = .ok (.iload_n 0, 1) := by decide +kernel
theorem dX3_operandsOf_9 : decode cX3_operandsOf 9 = .ok (.bipush (-6), 2) := by decide +kernel
theorem dX3_operandsOf_11 : decode cX3_operandsOf 11 = .ok (.if_icmp .gt 13, 3) := by decide +kernel
theorem dX3_operandsOf_14 : decode cX3_operandsOf 14 = .ok (.iload_n 0, 1) := by decide +kernel
theorem dX3_operandsOf_15 : decode cX3_operandsOf 15 = .ok (.bipush (-9), 2) := by decide +kernel
theorem dX3_operandsOf_17 : decode cX3_operandsOf 17 = .ok (.if_icmp .lt 7, 3) := by decide +kernel
theorem dX3_operandsOf_20 : decode cX3_operandsOf 20 = .ok (.iconst 2, 1) := by decide +kernel
theorem dX3_operandsOf_21 : decode cX3_operandsOf 21 = .ok (.goto 4, 3) := by decide +kernel
theorem dX3_operandsOf_24 : decode cX3_operandsOf 24 = .ok (.iconst 0, 1) := by decide +kernel
theorem dX3_operandsOf_25 : decode cX3_operandsOf 25 = .ok (.ireturn, 1) := by decide +kernel
theorem dX3_addCode_0 : decode cX3_addCode 0 = .ok (.iload_n 2, 1) := by decide +kernel
theorem dX3_addCode_1 : decode cX3_addCode 1 = .ok (.bipush (-11), 2) := by decide +kernel
theorem dX3_addCode_3 : decode cX3_addCode 3 = .ok (.if_icmp .eq 21, 3) := by decide +kernel
theorem dX3_addCode_6 : decode cX3_addCode 6 = .ok (.aload_n 0, 1) := by decide +kernel
theorem dX3_addCode_7 : decode cX3_addCode 7 = .ok (.getfield 18, 3) := by decide +kernel
theorem dX3_addCode_10 : decode cX3_addCode 10 = .ok (.iconst 0, 1) := by decide +kernel
theorem dX3_addCode_11 : decode cX3_addCode 11 = .ok (.iaload, 1) := by decide +kernel
theorem dX3_addCode_12 : decode cX3_addCode 12 = .ok (.ifCond .eq 12, 3) := by decide +kernel
theorem dX3_addCode_15 : decode cX3_addCode 15 = .ok (.iload_n 1, 1) := by decide +kernel
theorem dX3_addCode_16 : decode cX3_addCode 16 = .ok (.bipush 30, 2) := by decide +kernel
theorem dX3_addCode_18 : decode cX3_addCode 18 = .ok (.invokestatic 88, 3) := by decide +kernel
theorem dX3_addCode_21 : decode cX3_addCode 21 = .ok (.ifCond .ne 5, 3) := by decide +kernel
theorem dX3_addCode_24 : decode cX3_addCode 24 = .ok (.iconst 0, 1) := by decide +kernel
theorem dX3_addCode_25 : decode cX3_addCode 25 = .ok (.ireturn, 1) := by decide +kernel
theorem dX3_addCode_26 : decode cX3_addCode 26 = .ok (.iload_n 2, 1) := by decide +kernel
theorem dX3_addCode_27 : decode cX3_addCode 27 = .ok (.invokestatic 91, 3) := by decide +kernel
theorem dX3_addCode_30 : decode cX3_addCode 30 = .ok (.istore_n 3, 1) := by decide +kernel
theorem dX3_addCode_31 : decode cX3_addCode 31 = .ok (.iload_n 3, 1) := by decide +kernel
theorem dX3_addCode_32 : decode cX3_addCode 32 = .ok (.ifCond .le 37, 3) := by decide +kernel
theorem dX3_addCode_35 : decode cX3_addCode 35 = .ok (.aload_n 0, 1) := by decide +kernel
theorem dX3_addCode_36 : decode cX3_addCode 36 = .ok (.getfield 36, 3) := by decide +kernel
theorem dX3_addCode_39 : decode cX3_addCode 39 = .ok (.bipush 8, 2) := by decide +kernel
theorem dX3_addCode_41 : decode cX3_addCode 41 = .ok (.if_icmp .lt 5, 3) := by decide +kernel
theorem dX3_addCode_44 : decode cX3_addCode 44 = .ok (.iconst 0, 1) := by decide +kernel
theorem dX3_addCode_45 : decode cX3_addCode 45 = .ok (.ireturn, 1) := by decide +kernel
theorem dX3_addCode_46 : decode cX3_addCode 46 = .ok (.aload_n 0, 1) := by decide +kernel
theorem dX3_addCode_47 : decode cX3_addCode 47 = .ok (.dup, 1) := by decide +kernel
theorem dX3_addCode_48 : decode cX3_addCode 48 = .ok (.getfield 36, 3) := by decide +kernel
theorem dX3_addCode_51 : decode cX3_addCode 51 = .ok (.iconst 1, 1) := by decide +kernel
theorem dX3_addCode_52 : decode cX3_addCode 52 = .ok (.iadd, 1) := by decide +kernel
theorem dX3_addCode_53 : decode cX3_addCode 53 = .ok (.putfield 36, 3) := by decide +kernel
theorem dX3_addCode_56 : decode cX3_addCode 56 = .ok (.aload_n 0, 1) := by decide +kernel
theorem dX3_addCode_57 : decode cX3_addCode 57 = .ok (.getfield 18, 3) := by decide +kernel
theorem dX3_addCode_60 : decode cX3_addCode 60 = .ok (.aload_n 0, 1) := by decide +kernel
theorem dX3_addCode_61 : decode cX3_addCode 61 = .ok (.getfield 36, 3) := by decide +kernel
theorem dX3_addCode_64 : decode cX3_addCode 64 = .ok (.iload_n 3, 1) := by decide +kernel
theorem dX3_addCode_65 : decode cX3_addCode 65 = .ok (.iastore, 1) := by decide +kernel
theorem dX3_addCode_66 : decode cX3_addCode 66 = .ok (.goto 7, 3) := by decide +kernel
theorem dX3_addCode_69 : decode cX3_addCode 69 = .ok (.aload_n 0, 1) := by decide +kernel
theorem dX3_addCode_70 : decode cX3_addCode 70 = .ok (.invokevirtual 95, 3) := by decide +kernel
theorem dX3_addCode_73 : decode cX3_addCode 73 = .ok (.aload_n 0, 1) := by decide +kernel
theorem dX3_addCode_74 : decode cX3_addCode 74 = .ok (.getfield 15, 3) := by decide +kernel
theorem dX3_addCode_77 : decode cX3_addCode 77 = .ok (.iload_n 1, 1) := by decide +kernel
theorem dX3_addCode_78 : decode cX3_addCode 78 = .ok (.iload_n 2, 1) := by decide +kernel
theorem dX3_addCode_79 : decode cX3_addCode 79 = .ok (.iastore, 1) := by decide +kernel
theorem dX3_addCode_80 : decode cX3_addCode 80 = .ok (.iconst 1, 1) := by decide +kernel
theorem dX3_addCode_81 : decode cX3_addCode 81 = .ok (.ireturn, 1) := by decide +kernel
theorem dX3_endOperand_0 : decode cX3_endOperand 0 = .ok (.aload_n 0, 1) := by decide +kernel
theorem dX3_endOperand_1 : decode cX3_endOperand 1 = .ok (.getfield 18, 3) := by decide +kernel
theorem dX3_endOperand_4 : decode cX3_endOperand 4 = .ok (.aload_n 0, 1) := by decide +kernel
theorem dX3_endOperand_5 : decode cX3_endOperand 5 = .ok (.getfield 36, 3) := by decide +kernel
theorem dX3_endOperand_8 : decode cX3_endOperand 8 = .ok (.dup2, 1) := by decide +kernel
theorem dX3_endOperand_9 : decode cX3_endOperand 9 = .ok (.iaload, 1) := by decide +kernel
theorem dX3_endOperand_10 : decode cX3_endOperand 10 = .ok (.iconst 1, 1) := by decide +kernel
theorem dX3_endOperand_11 : decode cX3_endOperand 11 = .ok (.isub, 1) := by decide +kernel
theorem dX3_endOperand_12 : decode cX3_endOperand 12 = .ok (.iastore, 1) := by decide +kernel
theorem dX3_endOperand_13 : decode cX3_endOperand 13 = .ok (.aload_n 0, 1) := by decide +kernel
theorem dX3_endOperand_14 : decode cX3_endOperand 14 = .ok (.getfield 36, 3) := by decide +kernel
theorem dX3_endOperand_17 : decode cX3_endOperand 17 = .ok (.ifCond .le 41, 3) := by decide +kernel
theorem dX3_endOperand_20 : decode cX3_endOperand 20 = .ok (.aload_n 0, 1) := by decide +kernel
theorem dX3_endOperand_21 : decode cX3_endOperand 21 = .ok (.getfield 18, 3) := by decide +kernel
theorem dX3_endOperand_24 : decode cX3_endOperand 24 = .ok (.aload_n 0, 1) := by decide +kernel
theorem dX3_endOperand_25 : decode cX3_endOperand 25 = .ok (.getfield 36, 3) := by decide +kernel
theorem dX3_endOperand_28 : decode cX3_endOperand 28 = .ok (.iaload, 1) := by decide +kernel
theorem dX3_endOperand_29 : decode cX3_endOperand 29 = .ok (.ifCond .ne 29, 3) := by decide +kernel
theorem dX3_endOperand_32 : decode cX3_endOperand 32 = .ok (.aload_n 0, 1) := by decide +kernel
theorem dX3_endOperand_33 : decode cX3_endOperand 33 = .ok (.dup, 1) := by decide +kernel
theorem dX3_endOperand_34 : decode cX3_endOperand 34 = .ok (.getfield 36, 3) := by decide +kernel
theorem dX3_endOperand_37 : decode cX3_endOperand 37 = .ok (.iconst 1, 1) := by decide +kernel
theorem dX3_endOperand_38 : decode cX3_endOperand 38 = .ok (.isub, 1) := by decide +kernel
theorem dX3_endOperand_39 : decode cX3_endOperand 39 = .ok (.putfield 36, 3) := by decide +kernel
theorem dX3_endOperand_42 : decode cX3_endOperand 42 = .ok (.aload_n 0, 1) := by decide +kernel
theorem dX3_endOperand_43 : decode cX3_endOperand 43 = .ok (.getfield 18, 3) := by decide +kernel
theorem dX3_endOperand_46 : decode cX3_endOperand 46 = .ok (.aload_n 0, 1) := by decide +kernel
theorem dX3_endOperand_47 : decode cX3_endOperand 47 = .ok (.getfield 36, 3) := by decide +kernel
theorem dX3_endOperand_50 : decode cX3_endOperand 50 = .ok (.dup2, 1) := by decide +kernel
theorem dX3_endOperand_51 : decode cX3_endOperand 51 = .ok (.iaload, 1) := by decide +kernel
theorem dX3_endOperand_52 : decode cX3_endOperand 52 = .ok (.iconst 1, 1) := by decide +kernel
theorem dX3_endOperand_53 : decode cX3_endOperand 53 = .ok (.isub, 1) := by decide +kernel
theorem dX3_endOperand_54 : decode cX3_endOperand 54 = .ok (.iastore, 1) := by decide +kernel
theorem dX3_endOperand_55 : decode cX3_endOperand 55 = .ok (.goto (-42), 3) := by decide +kernel
theorem dX3_endOperand_58 : decode cX3_endOperand 58 = .ok (.return_, 1) := by decide +kernel
theorem dX3_valueFor_0 : decode cX3_valueFor 0 = .ok (.aload_n 3, 1) := by decide +kernel
theorem dX3_valueFor_1 : decode cX3_valueFor 1 = .ok (.ifnonnull 5, 3) := by decide +kernel
theorem dX3_valueFor_4 : decode cX3_valueFor 4 = .ok (.lconst 0, 1) := by decide +kernel
theorem dX3_valueFor_5 : decode cX3_valueFor 5 = .ok (.lreturn, 1) := by decide +kernel
theorem dX3_valueFor_6 : decode cX3_valueFor 6 = .ok (.aload_n 0, 1) := by decide +kernel
theorem dX3_valueFor_7 : decode cX3_valueFor 7 = .ok (.iconst 0, 1) := by decide +kernel
theorem dX3_valueFor_8 : decode cX3_valueFor 8 = .ok (.putfield 98, 3) := by decide +kernel
theorem dX3_valueFor_11 : decode cX3_valueFor 11 = .ok (.aload_n 0, 1) := by decide +kernel
theorem dX3_valueFor_12 : decode cX3_valueFor 12 = .ok (.getfield 25, 3) := by decide +kernel
theorem dX3_valueFor_15 : decode cX3_valueFor 15 = .ok (.iconst 1, 1) := by decide +kernel
theorem dX3_valueFor_16 : decode cX3_valueFor 16 = .ok (.isub, 1) := by decide +kernel
theorem dX3_valueFor_17 : decode cX3_valueFor 17 = .ok (.istore 4, 2) := by decide +kernel
theorem dX3_valueFor_19 : decode cX3_valueFor 19 = .ok (.iload 4, 2) := by decide +kernel
theorem dX3_valueFor_21 : decode cX3_valueFor 21 = .ok (.ifCond .lt 48, 3) := by decide +kernel
theorem dX3_valueFor_24 : decode cX3_valueFor 24 = .ok (.aload_n 0, 1) := by decide +kernel
theorem dX3_valueFor_25 : decode cX3_valueFor 25 = .ok (.getfield 11, 3) := by decide +kernel
theorem dX3_valueFor_28 : decode cX3_valueFor 28 = .ok (.iload 4, 2) := by decide +kernel
theorem dX3_valueFor_30 : decode cX3_valueFor 30 = .ok (.iaload, 1) := by decide +kernel
theorem dX3_valueFor_31 : decode cX3_valueFor 31 = .ok (.istore 5, 2) := by decide +kernel
theorem dX3_valueFor_33 : decode cX3_valueFor 33 = .ok (.aload_n 0, 1) := by decide +kernel
theorem dX3_valueFor_34 : decode cX3_valueFor 34 = .ok (.iload 5, 2) := by decide +kernel
theorem dX3_valueFor_36 : decode cX3_valueFor 36 = .ok (.invokestatic 91, 3) := by decide +kernel
theorem dX3_valueFor_39 : decode cX3_valueFor 39 = .ok (.ifCond .le 12, 3) := by decide +kernel
theorem dX3_valueFor_42 : decode cX3_valueFor 42 = .ok (.aload_n 0, 1) := by decide +kernel
theorem dX3_valueFor_43 : decode cX3_valueFor 43 = .ok (.iload 5, 2) := by decide +kernel
theorem dX3_valueFor_45 : decode cX3_valueFor 45 = .ok (.invokevirtual 101, 3) := by decide +kernel
theorem dX3_valueFor_48 : decode cX3_valueFor 48 = .ok (.goto 12, 3) := by decide +kernel
theorem dX3_valueFor_51 : decode cX3_valueFor 51 = .ok (.iload 5, 2) := by decide +kernel
theorem dX3_valueFor_53 : decode cX3_valueFor 53 = .ok (.iload_n 1, 1) := by decide +kernel
theorem dX3_valueFor_54 : decode cX3_valueFor 54 = .ok (.aload_n 2, 1) := by decide +kernel
theorem dX3_valueFor_55 : decode cX3_valueFor 55 = .ok (.aload_n 3, 1) := by decide +kernel
theorem dX3_valueFor_56 : decode cX3_valueFor 56 = .ok (.invokestatic 104, 3) := by decide +kernel
theorem dX3_valueFor_59 : decode cX3_valueFor 59 = .ok (.i2l, 1) := by decide +kernel
theorem dX3_valueFor_60 : decode cX3_valueFor 60 = .ok (.invokevirtual 108, 3) := by decide +kernel
theorem dX3_valueFor_63 : decode cX3_valueFor 63 = .ok (.iinc 4 (-1), 3) := by decide +kernel
theorem dX3_valueFor_66 : decode cX3_valueFor 66 = .ok (.goto (-47), 3) := by decide +kernel
theorem dX3_valueFor_69 : decode cX3_valueFor 69 = .ok (.aload_n 0, 1) := by decide +kernel
theorem dX3_valueFor_70 : decode cX3_valueFor 70 = .ok (.invokevirtual 112, 3) := by decide +kernel
theorem dX3_valueFor_73 : decode cX3_valueFor 73 = .ok (.lreturn, 1) := by decide +kernel
theorem dX3_push_0 : decode cX3_push 0 = .ok (.aload_n 0, 1) := by decide +kernel
theorem dX3_push_1 : decode cX3_push 1 = .ok (.getfield 98, 3) := by decide +kernel
theorem dX3_push_4 : decode cX3_push 4 = .ok (.bipush 30, 2) := by decide +kernel
theorem dX3_push_6 : decode cX3_push 6 = .ok (.if_icmp .ge 23, 3) := by decide +kernel
theorem dX3_push_9 : decode cX3_push 9 = .ok (.aload_n 0, 1) := by decide +kernel
theorem dX3_push_10 : decode cX3_push 10 = .ok (.getfield 21, 3) := by decide +kernel
theorem dX3_push_13 : decode cX3_push 13 = .ok (.aload_n 0, 1) := by decide +kernel
theorem dX3_push_14 : decode cX3_push 14 = .ok (.getfield 98, 3) := by decide +kernel
theorem dX3_push_17 : decode cX3_push 17 = .ok (.lload_n 1, 1) := by decide +kernel
theorem dX3_push_18 : decode cX3_push 18 = .ok (.lastore, 1) := by decide +kernel
theorem dX3_push_19 : decode cX3_push 19 = .ok (.aload_n 0, 1) := by decide +kernel
theorem dX3_push_20 : decode cX3_push 20 = .ok (.dup, 1) := by decide +kernel
theorem dX3_push_21 : decode cX3_push 21 = .ok (.getfield 98, 3) := by decide +kernel
theorem dX3_push_24 : decode cX3_push 24 = .ok (.iconst 1, 1) := by decide +kernel
theorem dX3_push_25 : decode cX3_push 25 = .ok (.iadd, 1) := by decide +kernel
theorem dX3_push_26 : decode cX3_push 26 = .ok (.putfield 98, 3) := by decide +kernel
theorem dX3_push_29 : decode cX3_push 29 = .ok (.return_, 1) := by decide +kernel
theorem dX3_pop_0 : decode cX3_pop 0 = .ok (.aload_n 0, 1) := by decide +kernel
theorem dX3_pop_1 : decode cX3_pop 1 = .ok (.getfield 98, 3) := by decide +kernel
theorem dX3_pop_4 : decode cX3_pop 4 = .ok (.ifCond .gt 5, 3) := by decide +kernel
theorem dX3_pop_7 : decode cX3_pop 7 = .ok (.lconst 0, 1) := by decide +kernel
theorem dX3_pop_8 : decode cX3_pop 8 = .ok (.lreturn, 1) := by decide +kernel
theorem dX3_pop_9 : decode cX3_pop 9 = .ok (.aload_n 0, 1) := by decide +kernel
theorem dX3_pop_10 : decode cX3_pop 10 = .ok (.dup, 1) := by decide +kernel
theorem dX3_pop_11 : decode cX3_pop 11 = .ok (.getfield 98, 3) := by decide +kernel
theorem dX3_pop_14 : decode cX3_pop 14 = .ok (.iconst 1, 1) := by decide +kernel
theorem dX3_pop_15 : decode cX3_pop 15 = .ok (.isub, 1) := by decide +kernel
theorem dX3_pop_16 : decode cX3_pop 16 = .ok (.putfield 98, 3) := by decide +kernel
theorem dX3_pop_19 : decode cX3_pop 19 = .ok (.aload_n 0, 1) := by decide +kernel
theorem dX3_pop_20 : decode cX3_pop 20 = .ok (.getfield 21, 3) := by decide +kernel
theorem dX3_pop_23 : decode cX3_pop 23 = .ok (.aload_n 0, 1) := by decide +kernel
theorem dX3_pop_24 : decode cX3_pop 24 = .ok (.getfield 98, 3) := by decide +kernel
theorem dX3_pop_27 : decode cX3_pop 27 = .ok (.laload, 1) := by decide +kernel
theorem dX3_pop_28 : decode cX3_pop 28 = .ok (.lreturn, 1) := by decide +kernel
theorem dX3_plainValue_0 : decode cX3_plainValue 0 = .ok (.iload_n 0, 1) := by decide +kernel
theorem dX3_plainValue_1 : decode cX3_plainValue 1 = .ok (.tableswitch 58 (-5) (-1) #[52, 47, 42, 37, 35], 35) := by decide +kernel
theorem dX3_plainValue_36 : decode cX3_plainValue 36 = .ok (.iload_n 1, 1) := by decide +kernel
theorem dX3_plainValue_37 : decode cX3_plainValue 37 = .ok (.ireturn, 1) := by decide +kernel
theorem dX3_plainValue_38 : decode cX3_plainValue 38 = .ok (.aload_n 3, 1) := by decide +kernel
theorem dX3_plainValue_39 : decode cX3_plainValue 39 = .ok (.getfield 116, 3) := by decide +kernel
theorem dX3_plainValue_42 : decode cX3_plainValue 42 = .ok (.ireturn, 1) := by decide +kernel
theorem dX3_plainValue_43 : decode cX3_plainValue 43 = .ok (.aload_n 3, 1) := by decide +kernel
theorem dX3_plainValue_44 : decode cX3_plainValue 44 = .ok (.getfield 120, 3) := by decide +kernel
theorem dX3_plainValue_47 : decode cX3_plainValue 47 = .ok (.ireturn, 1) := by decide +kernel
theorem dX3_plainValue_48 : decode cX3_plainValue 48 = .ok (.aload_n 2, 1) := by decide +kernel
theorem dX3_plainValue_49 : decode cX3_plainValue 49 = .ok (.getfield 120, 3) := by decide +kernel
theorem dX3_plainValue_52 : decode cX3_plainValue 52 = .ok (.ireturn, 1) := by decide +kernel
theorem dX3_plainValue_53 : decode cX3_plainValue 53 = .ok (.aload_n 2, 1) := by decide +kernel
theorem dX3_plainValue_54 : decode cX3_plainValue 54 = .ok (.aload_n 3, 1) := by decide +kernel
theorem dX3_plainValue_55 : decode cX3_plainValue 55 = .ok (.invokevirtual 122, 3) := by decide +kernel
theorem dX3_plainValue_58 : decode cX3_plainValue 58 = .ok (.ireturn, 1) := by decide +kernel
theorem dX3_plainValue_59 : decode cX3_plainValue 59 = .ok (.iload_n 0, 1) := by decide +kernel
theorem dX3_plainValue_60 : decode cX3_plainValue 60 = .ok (.ireturn, 1) := by decide +kernel
theorem dX3_workOperator_0 : decode cX3_workOperator 0 = .ok (.aload_n 0, 1) := by decide +kernel
theorem dX3_workOperator_1 : decode cX3_workOperator 1 = .ok (.invokevirtual 112, 3) := by decide +kernel
theorem dX3_workOperator_4 : decode cX3_workOperator 4 = .ok (.lstore_n 2, 1) := by decide +kernel
theorem dX3_workOperator_5 : decode cX3_workOperator 5 = .ok (.aload_n 0, 1) := by decide +kernel
theorem dX3_workOperator_6 : decode cX3_workOperator 6 = .ok (.invokevirtual 112, 3) := by decide +kernel
theorem dX3_workOperator_9 : decode cX3_workOperator 9 = .ok (.lstore 4, 2) := by decide +kernel
theorem dX3_workOperator_11 : decode cX3_workOperator 11 = .ok (.iload_n 1, 1) := by decide +kernel
theorem dX3_workOperator_12 : decode cX3_workOperator 12 = .ok (.bipush (-10), 2) := by decide +kernel
theorem dX3_workOperator_14 : decode cX3_workOperator 14 = .ok (.if_icmp .ne 37, 3) := by decide +kernel
theorem dX3_workOperator_17 : decode cX3_workOperator 17 = .ok (.aload_n 0, 1) := by decide +kernel
theorem dX3_workOperator_18 : decode cX3_workOperator 18 = .ok (.invokevirtual 112, 3) := by decide +kernel
theorem dX3_workOperator_21 : decode cX3_workOperator 21 = .ok (.lstore 6, 2) := by decide +kernel
theorem dX3_workOperator_23 : decode cX3_workOperator 23 = .ok (.lload_n 2, 1) := by decide +kernel
theorem dX3_workOperator_24 : decode cX3_workOperator 24 = .ok (.ldc2_w 126, 3) := by decide +kernel
theorem dX3_workOperator_27 : decode cX3_workOperator 27 = .ok (.lcmp, 1) := by decide +kernel
theorem dX3_workOperator_28 : decode cX3_workOperator 28 = .ok (.ifCond .ne 9, 3) := by decide +kernel
theorem dX3_workOperator_31 : decode cX3_workOperator 31 = .ok (.ldc2_w 126, 3) := by decide +kernel
theorem dX3_workOperator_34 : decode cX3_workOperator 34 = .ok (.goto 16, 3) := by decide +kernel
theorem dX3_workOperator_37 : decode cX3_workOperator 37 = .ok (.lload_n 2, 1) := by decide +kernel
theorem dX3_workOperator_38 : decode cX3_workOperator 38 = .ok (.lconst 0, 1) := by decide +kernel
theorem dX3_workOperator_39 : decode cX3_workOperator 39 = .ok (.lcmp, 1) := by decide +kernel
theorem dX3_workOperator_40 : decode cX3_workOperator 40 = .ok (.ifCond .le 8, 3) := by decide +kernel
theorem dX3_workOperator_43 : decode cX3_workOperator 43 = .ok (.lload 4, 2) := by decide +kernel
theorem dX3_workOperator_45 : decode cX3_workOperator 45 = .ok (.goto 5, 3) := by decide +kernel
theorem dX3_workOperator_48 : decode cX3_workOperator 48 = .ok (.lload 6, 2) := by decide +kernel
theorem dX3_workOperator_50 : decode cX3_workOperator 50 = .ok (.lreturn, 1) := by decide +kernel
theorem dX3_workOperator_51 : decode cX3_workOperator 51 = .ok (.lload_n 2, 1) := by decide +kernel
theorem dX3_workOperator_52 : decode cX3_workOperator 52 = .ok (.ldc2_w 126, 3) := by decide +kernel
theorem dX3_workOperator_55 : decode cX3_workOperator 55 = .ok (.lcmp, 1) := by decide +kernel
theorem dX3_workOperator_56 : decode cX3_workOperator 56 = .ok (.ifCond .eq 12, 3) := by decide +kernel
theorem dX3_workOperator_59 : decode cX3_workOperator 59 = .ok (.lload 4, 2) := by decide +kernel
theorem dX3_workOperator_61 : decode cX3_workOperator 61 = .ok (.ldc2_w 126, 3) := by decide +kernel
theorem dX3_workOperator_64 : decode cX3_workOperator 64 = .ok (.lcmp, 1) := by decide +kernel
theorem dX3_workOperator_65 : decode cX3_workOperator 65 = .ok (.ifCond .ne 7, 3) := by decide +kernel
theorem dX3_workOperator_68 : decode cX3_workOperator 68 = .ok (.ldc2_w 126, 3) := by decide +kernel
theorem dX3_workOperator_71 : decode cX3_workOperator 71 = .ok (.lreturn, 1) := by decide +kernel
theorem dX3_workOperator_72 : decode cX3_workOperator 72 = .ok (.lload_n 2, 1) := by decide +kernel
theorem dX3_workOperator_73 : decode cX3_workOperator 73 = .ok (.l2i, 1) := by decide +kernel
theorem dX3_workOperator_74 : decode cX3_workOperator 74 = .ok (.istore 6, 2) := by decide +kernel
theorem dX3_workOperator_76 : decode cX3_workOperator 76 = .ok (.lload 4, 2) := by decide +kernel
theorem dX3_workOperator_78 : decode cX3_workOperator 78 = .ok (.l2i, 1) := by decide +kernel
theorem dX3_workOperator_79 : decode cX3_workOperator 79 = .ok (.istore 7, 2) := by decide +kernel
theorem dX3_workOperator_81 : decode cX3_workOperator 81 = .ok (.iload_n 1, 1) := by decide +kernel
theorem dX3_workOperator_82 : decode cX3_workOperator 82 = .ok (.tableswitch 47 (-8) (-6) #[40, 33, 26], 26) := by decide +kernel
theorem dX3_workOperator_108 : decode cX3_workOperator 108 = .ok (.iload 6, 2) := by decide +kernel
theorem dX3_workOperator_110 : decode cX3_workOperator 110 = .ok (.iload 7, 2) := by decide +kernel
theorem dX3_workOperator_112 : decode cX3_workOperator 112 = .ok (.iadd, 1) := by decide +kernel
theorem dX3_workOperator_113 : decode cX3_workOperator 113 = .ok (.i2l, 1) := by decide +kernel
theorem dX3_workOperator_114 : decode cX3_workOperator 114 = .ok (.lreturn, 1) := by decide +kernel
theorem dX3_workOperator_115 : decode cX3_workOperator 115 = .ok (.iload 6, 2) := by decide +kernel
theorem dX3_workOperator_117 : decode cX3_workOperator 117 = .ok (.iload 7, 2) := by decide +kernel
theorem dX3_workOperator_119 : decode cX3_workOperator 119 = .ok (.isub, 1) := by decide +kernel
theorem dX3_workOperator_120 : decode cX3_workOperator 120 = .ok (.i2l, 1) := by decide +kernel
theorem dX3_workOperator_121 : decode cX3_workOperator 121 = .ok (.lreturn, 1) := by decide +kernel
theorem dX3_workOperator_122 : decode cX3_workOperator 122 = .ok (.iload 6, 2) := by decide +kernel
theorem dX3_workOperator_124 : decode cX3_workOperator 124 = .ok (.iload 7, 2) := by decide +kernel
theorem dX3_workOperator_126 : decode cX3_workOperator 126 = .ok (.imul, 1) := by decide +kernel
theorem dX3_workOperator_127 : decode cX3_workOperator 127 = .ok (.i2l, 1) := by decide +kernel
theorem dX3_workOperator_128 : decode cX3_workOperator 128 = .ok (.lreturn, 1) := by decide +kernel
theorem dX3_workOperator_129 : decode cX3_workOperator 129 = .ok (.iload 7, 2) := by decide +kernel
theorem dX3_workOperator_131 : decode cX3_workOperator 131 = .ok (.ifCond .ne 9, 3) := by decide +kernel
theorem dX3_workOperator_134 : decode cX3_workOperator 134 = .ok (.ldc2_w 126, 3) := by decide +kernel
theorem dX3_workOperator_137 : decode cX3_workOperator 137 = .ok (.goto 9, 3) := by decide +kernel
theorem dX3_workOperator_140 : decode cX3_workOperator 140 = .ok (.iload 6, 2) := by decide +kernel
theorem dX3_workOperator_142 : decode cX3_workOperator 142 = .ok (.iload 7, 2) := by decide +kernel
theorem dX3_workOperator_144 : decode cX3_workOperator 144 = .ok (.idiv, 1) := by decide +kernel
theorem dX3_workOperator_145 : decode cX3_workOperator 145 = .ok (.i2l, 1) := by decide +kernel
theorem dX3_workOperator_146 : decode cX3_workOperator 146 = .ok (.lreturn, 1) := by decide +kernel
theorem dX4_init_0 : decode cX4_init 0 = .ok (.aload_n 0, 1) := by decide +kernel
theorem dX4_init_1 : decode cX4_init 1 = .ok (.invokespecial 3, 3) := by decide +kernel
theorem dX4_init_4 : decode cX4_init 4 = .ok (.aload_n 0, 1) := by decide +kernel
theorem dX4_init_5 : decode cX4_init 5 = .ok (.bipush 16, 2) := by decide +kernel
theorem dX4_init_7 : decode cX4_init 7 = .ok (.anewarray 9, 3) := by decide +kernel
theorem dX4_init_10 : decode cX4_init 10 = .ok (.putfield 11, 3) := by decide +kernel
theorem dX4_init_13 : decode cX4_init 13 = .ok (.aload_n 0, 1) := by decide +kernel
theorem dX4_init_14 : decode cX4_init 14 = .ok (.iconst 1, 1) := by decide +kernel
theorem dX4_init_15 : decode cX4_init 15 = .ok (.putfield 17, 3) := by decide +kernel
theorem dX4_init_18 : decode cX4_init 18 = .ok (.iconst 0, 1) := by decide +kernel
theorem dX4_init_19 : decode cX4_init 19 = .ok (.istore_n 1, 1) := by decide +kernel
theorem dX4_init_20 : decode cX4_init 20 = .ok (.iload_n 1, 1) := by decide +kernel
theorem dX4_init_21 : decode cX4_init 21 = .ok (.bipush 16, 2) := by decide +kernel
theorem dX4_init_23 : decode cX4_init 23 = .ok (.if_icmp .ge 22, 3) := by decide +kernel
theorem dX4_init_26 : decode cX4_init 26 = .ok (.aload_n 0, 1) := by decide +kernel
theorem dX4_init_27 : decode cX4_init 27 = .ok (.getfield 11, 3) := by decide +kernel
theorem dX4_init_30 : decode cX4_init 30 = .ok (.iload_n 1, 1) := by decide +kernel
theorem dX4_init_31 : decode cX4_init 31 = .ok (.new 9, 3) := by decide +kernel
theorem dX4_init_34 : decode cX4_init 34 = .ok (.dup, 1) := by decide +kernel
theorem dX4_init_35 : decode cX4_init 35 = .ok (.invokespecial 21, 3) := by decide +kernel
theorem dX4_init_38 : decode cX4_init 38 = .ok (.aastore, 1) := by decide +kernel
theorem dX4_init_39 : decode cX4_init 39 = .ok (.iinc 1 1, 3) := by decide +kernel
theorem dX4_init_42 : decode cX4_init 42 = .ok (.goto (-22), 3) := by decide +kernel
theorem dX4_init_45 : decode cX4_init 45 = .ok (.return_, 1) := by decide +kernel
theorem dX4_add_0 : decode cX4_add 0 = .ok (.aload_n 0, 1) := by decide +kernel
theorem dX4_add_1 : decode cX4_add 1 = .ok (.getfield 22, 3) := by decide +kernel
theorem dX4_add_4 : decode cX4_add 4 = .ok (.bipush 16, 2) := by decide +kernel
theorem dX4_add_6 : decode cX4_add 6 = .ok (.if_icmp .lt 5, 3) := by decide +kernel
theorem dX4_add_9 : decode cX4_add 9 = .ok (.iconst 0, 1) := by decide +kernel
theorem dX4_add_10 : decode cX4_add 10 = .ok (.ireturn, 1) := by decide +kernel
theorem dX4_add_11 : decode cX4_add 11 = .ok (.aload_n 0, 1) := by decide +kernel
theorem dX4_add_12 : decode cX4_add 12 = .ok (.getfield 11, 3) := by decide +kernel
theorem dX4_add_15 : decode cX4_add 15 = .ok (.aload_n 0, 1) := by decide +kernel
theorem dX4_add_16 : decode cX4_add 16 = .ok (.getfield 22, 3) := by decide +kernel
theorem dX4_add_19 : decode cX4_add 19 = .ok (.aaload, 1) := by decide +kernel
theorem dX4_add_20 : decode cX4_add 20 = .ok (.aload_n 1, 1) := by decide +kernel
theorem dX4_add_21 : decode cX4_add 21 = .ok (.invokevirtual 26, 3) := by decide +kernel
theorem dX4_add_24 : decode cX4_add 24 = .ok (.aload_n 0, 1) := by decide +kernel
theorem dX4_add_25 : decode cX4_add 25 = .ok (.dup, 1) := by decide +kernel
theorem dX4_add_26 : decode cX4_add 26 = .ok (.getfield 22, 3) := by decide +kernel
theorem dX4_add_29 : decode cX4_add 29 = .ok (.iconst 1, 1) := by decide +kernel
theorem dX4_add_30 : decode cX4_add 30 = .ok (.iadd, 1) := by decide +kernel
theorem dX4_add_31 : decode cX4_add 31 = .ok (.putfield 22, 3) := by decide +kernel
theorem dX4_add_34 : decode cX4_add 34 = .ok (.iconst 1, 1) := by decide +kernel
theorem dX4_add_35 : decode cX4_add 35 = .ok (.ireturn, 1) := by decide +kernel
theorem dX4_at_0 : decode cX4_at 0 = .ok (.iload_n 1, 1) := by decide +kernel
theorem dX4_at_1 : decode cX4_at 1 = .ok (.ifCond .lt 20, 3) := by decide +kernel
theorem dX4_at_4 : decode cX4_at 4 = .ok (.iload_n 1, 1) := by decide +kernel
theorem dX4_at_5 : decode cX4_at 5 = .ok (.aload_n 0, 1) := by decide +kernel
theorem dX4_at_6 : decode cX4_at 6 = .ok (.getfield 22, 3) := by decide +kernel
theorem dX4_at_9 : decode cX4_at 9 = .ok (.if_icmp .ge 12, 3) := by decide +kernel
theorem dX4_at_12 : decode cX4_at 12 = .ok (.aload_n 0, 1) := by decide +kernel
theorem dX4_at_13 : decode cX4_at 13 = .ok (.getfield 11, 3) := by decide +kernel
theorem dX4_at_16 : decode cX4_at 16 = .ok (.iload_n 1, 1) := by decide +kernel
theorem dX4_at_17 : decode cX4_at 17 = .ok (.aaload, 1) := by decide +kernel
theorem dX4_at_18 : decode cX4_at 18 = .ok (.goto 4, 3) := by decide +kernel
theorem dX4_at_21 : decode cX4_at 21 = .ok (.aconst_null, 1) := by decide +kernel
theorem dX4_at_22 : decode cX4_at 22 = .ok (.areturn, 1) := by decide +kernel
theorem dX4_contactAt_0 : decode cX4_contactAt 0 = .ok (.iload_n 1, 1) := by decide +kernel
theorem dX4_contactAt_1 : decode cX4_contactAt 1 = .ok (.ifCond .lt 32, 3) := by decide +kernel
theorem dX4_contactAt_4 : decode cX4_contactAt 4 = .ok (.iload_n 1, 1) := by decide +kernel
theorem dX4_contactAt_5 : decode cX4_contactAt 5 = .ok (.aload_n 0, 1) := by decide +kernel
theorem dX4_contactAt_6 : decode cX4_contactAt 6 = .ok (.getfield 22, 3) := by decide +kernel
theorem dX4_contactAt_9 : decode cX4_contactAt 9 = .ok (.if_icmp .ge 24, 3) := by decide +kernel
theorem dX4_contactAt_12 : decode cX4_contactAt 12 = .ok (.aload_n 0, 1) := by decide +kernel
theorem dX4_contactAt_13 : decode cX4_contactAt 13 = .ok (.getfield 11, 3) := by decide +kernel
theorem dX4_contactAt_16 : decode cX4_contactAt 16 = .ok (.iload_n 1, 1) := by decide +kernel
theorem dX4_contactAt_17 : decode cX4_contactAt 17 = .ok (.aaload, 1) := by decide +kernel
theorem dX4_contactAt_18 : decode cX4_contactAt 18 = .ok (.getfield 30, 3) := by decide +kernel
theorem dX4_contactAt_21 : decode cX4_contactAt 21 = .ok (.ifCond .ne 12, 3) := by decide +kernel
theorem dX4_contactAt_24 : decode cX4_contactAt 24 = .ok (.aload_n 0, 1) := by decide +kernel
theorem dX4_contactAt_25 : decode cX4_contactAt 25 = .ok (.getfield 11, 3) := by decide +kernel
theorem dX4_contactAt_28 : decode cX4_contactAt 28 = .ok (.iload_n 1, 1) := by decide +kernel
theorem dX4_contactAt_29 : decode cX4_contactAt 29 = .ok (.aaload, 1) := by decide +kernel
theorem dX4_contactAt_30 : decode cX4_contactAt 30 = .ok (.goto 4, 3) := by decide +kernel
theorem dX4_contactAt_33 : decode cX4_contactAt 33 = .ok (.aconst_null, 1) := by decide +kernel
theorem dX4_contactAt_34 : decode cX4_contactAt 34 = .ok (.areturn, 1) := by decide +kernel
theorem dX4_holdsCall_0 : decode cX4_holdsCall 0 = .ok (.iconst 0, 1) := by decide +kernel
theorem dX4_holdsCall_1 : decode cX4_holdsCall 1 = .ok (.istore_n 3, 1) := by decide +kernel
theorem dX4_holdsCall_2 : decode cX4_holdsCall 2 = .ok (.iload_n 3, 1) := by decide +kernel
theorem dX4_holdsCall_3 : decode cX4_holdsCall 3 = .ok (.aload_n 0, 1) := by decide +kernel
theorem dX4_holdsCall_4 : decode cX4_holdsCall 4 = .ok (.getfield 22, 3) := by decide +kernel
theorem dX4_holdsCall_7 : decode cX4_holdsCall 7 = .ok (.if_icmp .ge 37, 3) := by decide +kernel
theorem dX4_holdsCall_10 : decode cX4_holdsCall 10 = .ok (.aload_n 0, 1) := by decide +kernel
theorem dX4_holdsCall_11 : decode cX4_holdsCall 11 = .ok (.getfield 11, 3) := by decide +kernel
theorem dX4_holdsCall_14 : decode cX4_holdsCall 14 = .ok (.iload_n 3, 1) := by decide +kernel
theorem dX4_holdsCall_15 : decode cX4_holdsCall 15 = .ok (.aaload, 1) := by decide +kernel
theorem dX4_holdsCall_16 : decode cX4_holdsCall 16 = .ok (.getfield 30, 3) := by decide +kernel
theorem dX4_holdsCall_19 : decode cX4_holdsCall 19 = .ok (.ifCond .ne 19, 3) := by decide +kernel
theorem dX4_holdsCall_22 : decode cX4_holdsCall 22 = .ok (.aload_n 0, 1) := by decide +kernel
theorem dX4_holdsCall_23 : decode cX4_holdsCall 23 = .ok (.getfield 11, 3) := by decide +kernel
theorem dX4_holdsCall_26 : decode cX4_holdsCall 26 = .ok (.iload_n 3, 1) := by decide +kernel
theorem dX4_holdsCall_27 : decode cX4_holdsCall 27 = .ok (.aaload, 1) := by decide +kernel
theorem dX4_holdsCall_28 : decode cX4_holdsCall 28 = .ok (.getfield 33, 3) := by decide +kernel
theorem dX4_holdsCall_31 : decode cX4_holdsCall 31 = .ok (.lload_n 1, 1) := by decide +kernel
theorem dX4_holdsCall_32 : decode cX4_holdsCall 32 = .ok (.lcmp, 1) := by decide +kernel
theorem dX4_holdsCall_33 : decode cX4_holdsCall 33 = .ok (.ifCond .ne 5, 3) := by decide +kernel
theorem dX4_holdsCall_36 : decode cX4_holdsCall 36 = .ok (.iconst 1, 1) := by decide +kernel
theorem dX4_holdsCall_37 : decode cX4_holdsCall 37 = .ok (.ireturn, 1) := by decide +kernel
theorem dX4_holdsCall_38 : decode cX4_holdsCall 38 = .ok (.iinc 3 1, 3) := by decide +kernel
theorem dX4_holdsCall_41 : decode cX4_holdsCall 41 = .ok (.goto (-39), 3) := by decide +kernel
theorem dX4_holdsCall_44 : decode cX4_holdsCall 44 = .ok (.iconst 0, 1) := by decide +kernel
theorem dX4_holdsCall_45 : decode cX4_holdsCall 45 = .ok (.ireturn, 1) := by decide +kernel
theorem dX5_init_0 : decode cX5_init 0 = .ok (.aload_n 0, 1) := by decide +kernel
theorem dX5_init_1 : decode cX5_init 1 = .ok (.invokespecial 3, 3) := by decide +kernel
theorem dX5_init_4 : decode cX5_init 4 = .ok (.aload_n 0, 1) := by decide +kernel
theorem dX5_init_5 : decode cX5_init 5 = .ok (.new 9, 3) := by decide +kernel
theorem dX5_init_8 : decode cX5_init 8 = .ok (.dup, 1) := by decide +kernel
theorem dX5_init_9 : decode cX5_init 9 = .ok (.invokespecial 11, 3) := by decide +kernel
theorem dX5_init_12 : decode cX5_init 12 = .ok (.putfield 12, 3) := by decide +kernel
theorem dX5_init_15 : decode cX5_init 15 = .ok (.aload_n 0, 1) := by decide +kernel
theorem dX5_init_16 : decode cX5_init 16 = .ok (.sipush 1000, 3) := by decide +kernel
theorem dX5_init_19 : decode cX5_init 19 = .ok (.newarray .int, 2) := by decide +kernel
theorem dX5_init_21 : decode cX5_init 21 = .ok (.putfield 20, 3) := by decide +kernel
theorem dX5_init_24 : decode cX5_init 24 = .ok (.aload_n 0, 1) := by decide +kernel
theorem dX5_init_25 : decode cX5_init 25 = .ok (.new 24, 3) := by decide +kernel
theorem dX5_init_28 : decode cX5_init 28 = .ok (.dup, 1) := by decide +kernel
theorem dX5_init_29 : decode cX5_init 29 = .ok (.invokespecial 26, 3) := by decide +kernel
theorem dX5_init_32 : decode cX5_init 32 = .ok (.putfield 27, 3) := by decide +kernel
theorem dX5_init_35 : decode cX5_init 35 = .ok (.aload_n 0, 1) := by decide +kernel
theorem dX5_init_36 : decode cX5_init 36 = .ok (.aload_n 1, 1) := by decide +kernel
theorem dX5_init_37 : decode cX5_init 37 = .ok (.putfield 31, 3) := by decide +kernel
theorem dX5_init_40 : decode cX5_init 40 = .ok (.return_, 1) := by decide +kernel
theorem dX5_readTape_0 : decode cX5_readTape 0 = .ok (.aload_n 0, 1) := by decide +kernel
theorem dX5_readTape_1 : decode cX5_readTape 1 = .ok (.getfield 27, 3) := by decide +kernel
theorem dX5_readTape_4 : decode cX5_readTape 4 = .ok (.iconst 0, 1) := by decide +kernel
theorem dX5_readTape_5 : decode cX5_readTape 5 = .ok (.putfield 35, 3) := by decide +kernel
theorem dX5_readTape_8 : decode cX5_readTape 8 = .ok (.aload_n 0, 1) := by decide +kernel
theorem dX5_readTape_9 : decode cX5_readTape 9 = .ok (.getfield 27, 3) := by decide +kernel
theorem dX5_readTape_12 : decode cX5_readTape 12 = .ok (.iconst 0, 1) := by decide +kernel
theorem dX5_readTape_13 : decode cX5_readTape 13 = .ok (.putfield 39, 3) := by decide +kernel
theorem dX5_readTape_16 : decode cX5_readTape 16 = .ok (.aload_n 0, 1) := by decide +kernel
theorem dX5_readTape_17 : decode cX5_readTape 17 = .ok (.iconst 0, 1) := by decide +kernel
theorem dX5_readTape_18 : decode cX5_readTape 18 = .ok (.putfield 43, 3) := by decide +kernel
theorem dX5_readTape_21 : decode cX5_readTape 21 = .ok (.iconst 0, 1) := by decide +kernel
theorem dX5_readTape_22 : decode cX5_readTape 22 = .ok (.istore_n 1, 1) := by decide +kernel
theorem dX5_readTape_23 : decode cX5_readTape 23 = .ok (.iconst 0, 1) := by decide +kernel
theorem dX5_readTape_24 : decode cX5_readTape 24 = .ok (.istore_n 2, 1) := by decide +kernel
theorem dX5_readTape_25 : decode cX5_readTape 25 = .ok (.iload_n 1, 1) := by decide +kernel
theorem dX5_readTape_26 : decode cX5_readTape 26 = .ok (.aload_n 0, 1) := by decide +kernel
theorem dX5_readTape_27 : decode cX5_readTape 27 = .ok (.getfield 31, 3) := by decide +kernel
theorem dX5_readTape_30 : decode cX5_readTape 30 = .ok (.getfield 46, 3) := by decide +kernel
theorem dX5_readTape_33 : decode cX5_readTape 33 = .ok (.if_icmp .ge 83, 3) := by decide +kernel
theorem dX5_readTape_36 : decode cX5_readTape 36 = .ok (.iload_n 2, 1) := by decide +kernel
theorem dX5_readTape_37 : decode cX5_readTape 37 = .ok (.sipush 1000, 3) := by decide +kernel
theorem dX5_readTape_40 : decode cX5_readTape 40 = .ok (.if_icmp .ge 76, 3) := by decide +kernel
theorem dX5_readTape_43 : decode cX5_readTape 43 = .ok (.aload_n 0, 1) := by decide +kernel
theorem dX5_readTape_44 : decode cX5_readTape 44 = .ok (.getfield 31, 3) := by decide +kernel
theorem dX5_readTape_47 : decode cX5_readTape 47 = .ok (.iload_n 1, 1) := by decide +kernel
theorem dX5_readTape_48 : decode cX5_readTape 48 = .ok (.invokevirtual 47, 3) := by decide +kernel
theorem dX5_readTape_51 : decode cX5_readTape 51 = .ok (.istore_n 3, 1) := by decide +kernel
theorem dX5_readTape_52 : decode cX5_readTape 52 = .ok (.aload_n 0, 1) := by decide +kernel
theorem dX5_readTape_53 : decode cX5_readTape 53 = .ok (.getfield 31, 3) := by decide +kernel
theorem dX5_readTape_56 : decode cX5_readTape 56 = .ok (.iload_n 1, 1) := by decide +kernel
theorem dX5_readTape_57 : decode cX5_readTape 57 = .ok (.iload_n 3, 1) := by decide +kernel
theorem dX5_readTape_58 : decode cX5_readTape 58 = .ok (.invokevirtual 51, 3) := by decide +kernel
theorem dX5_readTape_61 : decode cX5_readTape 61 = .ok (.aload_n 0, 1) := by decide +kernel
theorem dX5_readTape_62 : decode cX5_readTape 62 = .ok (.invokevirtual 55, 3) := by decide +kernel
theorem dX5_readTape_65 : decode cX5_readTape 65 = .ok (.ifCond .ne 25, 3) := by decide +kernel
theorem dX5_readTape_68 : decode cX5_readTape 68 = .ok (.aload_n 0, 1) := by decide +kernel
theorem dX5_readTape_69 : decode cX5_readTape 69 = .ok (.sipush 1000, 3) := by decide +kernel
theorem dX5_readTape_72 : decode cX5_readTape 72 = .ok (.iload_n 2, 1) := by decide +kernel
theorem dX5_readTape_73 : decode cX5_readTape 73 = .ok (.imul, 1) := by decide +kernel
theorem dX5_readTape_74 : decode cX5_readTape 74 = .ok (.aload_n 0, 1) := by decide +kernel
theorem dX5_readTape_75 : decode cX5_readTape 75 = .ok (.getfield 31, 3) := by decide +kernel
theorem dX5_readTape_78 : decode cX5_readTape 78 = .ok (.getfield 59, 3) := by decide +kernel
theorem dX5_readTape_81 : decode cX5_readTape 81 = .ok (.iadd, 1) := by decide +kernel
theorem dX5_readTape_82 : decode cX5_readTape 82 = .ok (.iload_n 1, 1) := by decide +kernel
theorem dX5_readTape_83 : decode cX5_readTape 83 = .ok (.isub, 1) := by decide +kernel
theorem dX5_readTape_84 : decode cX5_readTape 84 = .ok (.invokevirtual 62, 3) := by decide +kernel
theorem dX5_readTape_87 : decode cX5_readTape 87 = .ok (.goto 19, 3) := by decide +kernel
theorem dX5_readTape_90 : decode cX5_readTape 90 = .ok (.aload_n 0, 1) := by decide +kernel
theorem dX5_readTape_91 : decode cX5_readTape 91 = .ok (.getfield 27, 3) := by decide +kernel
theorem dX5_readTape_94 : decode cX5_readTape 94 = .ok (.aload_n 0, 1) := by decide +kernel
theorem dX5_readTape_95 : decode cX5_readTape 95 = .ok (.getfield 12, 3) := by decide +kernel
theorem dX5_readTape_98 : decode cX5_readTape 98 = .ok (.invokevirtual 66, 3) := by decide +kernel
theorem dX5_readTape_101 : decode cX5_readTape 101 = .ok (.ifCond .ne 5, 3) := by decide +kernel
theorem dX5_readTape_104 : decode cX5_readTape 104 = .ok (.iconst 0, 1) := by decide +kernel
theorem dX5_readTape_105 : decode cX5_readTape 105 = .ok (.ireturn, 1) := by decide +kernel
theorem dX5_readTape_106 : decode cX5_readTape 106 = .ok (.iload_n 3, 1) := by decide +kernel
theorem dX5_readTape_107 : decode cX5_readTape 107 = .ok (.iconst 1, 1) := by decide +kernel
theorem dX5_readTape_108 : decode cX5_readTape 108 = .ok (.iadd, 1) := by decide +kernel
theorem dX5_readTape_109 : decode cX5_readTape 109 = .ok (.istore_n 1, 1) := by decide +kernel
theorem dX5_readTape_110 : decode cX5_readTape 110 = .ok (.iinc 2 1, 3) := by decide +kernel
theorem dX5_readTape_113 : decode cX5_readTape 113 = .ok (.goto (-88), 3) := by decide +kernel
theorem dX5_readTape_116 : decode cX5_readTape 116 = .ok (.iconst 1, 1) := by decide +kernel
theorem dX5_readTape_117 : decode cX5_readTape 117 = .ok (.ireturn, 1) := by decide +kernel
theorem dX5_addWrong_0 : decode cX5_addWrong 0 = .ok (.aload_n 0, 1) := by decide +kernel
theorem dX5_addWrong_1 : decode cX5_addWrong 1 = .ok (.getfield 43, 3) := by decide +kernel
theorem dX5_addWrong_4 : decode cX5_addWrong 4 = .ok (.aload_n 0, 1) := by decide +kernel
theorem dX5_addWrong_5 : decode cX5_addWrong 5 = .ok (.getfield 20, 3) := by decide +kernel
theorem dX5_addWrong_8 : decode cX5_addWrong 8 = .ok (.arraylength, 1) := by decide +kernel
theorem dX5_addWrong_9 : decode cX5_addWrong 9 = .ok (.if_icmp .ge 23, 3) := by decide +kernel
theorem dX5_addWrong_12 : decode cX5_addWrong 12 = .ok (.aload_n 0, 1) := by decide +kernel
theorem dX5_addWrong_13 : decode cX5_addWrong 13 = .ok (.getfield 20, 3) := by decide +kernel
theorem dX5_addWrong_16 : decode cX5_addWrong 16 = .ok (.aload_n 0, 1) := by decide +kernel
theorem dX5_addWrong_17 : decode cX5_addWrong 17 = .ok (.getfield 43, 3) := by decide +kernel
theorem dX5_addWrong_20 : decode cX5_addWrong 20 = .ok (.iload_n 1, 1) := by decide +kernel
theorem dX5_addWrong_21 : decode cX5_addWrong 21 = .ok (.iastore, 1) := by decide +kernel
theorem dX5_addWrong_22 : decode cX5_addWrong 22 = .ok (.aload_n 0, 1) := by decide +kernel
theorem dX5_addWrong_23 : decode cX5_addWrong 23 = .ok (.dup, 1) := by decide +kernel
theorem dX5_addWrong_24 : decode cX5_addWrong 24 = .ok (.getfield 43, 3) := by decide +kernel
theorem dX5_addWrong_27 : decode cX5_addWrong 27 = .ok (.iconst 1, 1) := by decide +kernel
theorem dX5_addWrong_28 : decode cX5_addWrong 28 = .ok (.iadd, 1) := by decide +kernel
theorem dX5_addWrong_29 : decode cX5_addWrong 29 = .ok (.putfield 43, 3) := by decide +kernel
theorem dX5_addWrong_32 : decode cX5_addWrong 32 = .ok (.return_, 1) := by decide +kernel
theorem dX5_readLine_0 : decode cX5_readLine 0 = .ok (.aload_n 0, 1) := by decide +kernel
theorem dX5_readLine_1 : decode cX5_readLine 1 = .ok (.getfield 31, 3) := by decide +kernel
theorem dX5_readLine_4 : decode cX5_readLine 4 = .ok (.invokevirtual 70, 3) := by decide +kernel
theorem dX5_readLine_7 : decode cX5_readLine 7 = .ok (.pop, 1) := by decide +kernel
theorem dX5_readLine_8 : decode cX5_readLine 8 = .ok (.aload_n 0, 1) := by decide +kernel
theorem dX5_readLine_9 : decode cX5_readLine 9 = .ok (.getfield 31, 3) := by decide +kernel
theorem dX5_readLine_12 : decode cX5_readLine 12 = .ok (.ldc 73, 2) := by decide +kernel
theorem dX5_readLine_14 : decode cX5_readLine 14 = .ok (.invokevirtual 75, 3) := by decide +kernel
theorem dX5_readLine_17 : decode cX5_readLine 17 = .ok (.ifCond .eq 16, 3) := by decide +kernel
theorem dX5_readLine_20 : decode cX5_readLine 20 = .ok (.aload_n 0, 1) := by decide +kernel
theorem dX5_readLine_21 : decode cX5_readLine 21 = .ok (.getfield 12, 3) := by decide +kernel
theorem dX5_readLine_24 : decode cX5_readLine 24 = .ok (.iconst 0, 1) := by decide +kernel
theorem dX5_readLine_25 : decode cX5_readLine 25 = .ok (.putfield 79, 3) := by decide +kernel
theorem dX5_readLine_28 : decode cX5_readLine 28 = .ok (.aload_n 0, 1) := by decide +kernel
theorem dX5_readLine_29 : decode cX5_readLine 29 = .ok (.invokevirtual 82, 3) := by decide +kernel
theorem dX5_readLine_32 : decode cX5_readLine 32 = .ok (.ireturn, 1) := by decide +kernel
theorem dX5_readLine_33 : decode cX5_readLine 33 = .ok (.aload_n 0, 1) := by decide +kernel
theorem dX5_readLine_34 : decode cX5_readLine 34 = .ok (.getfield 31, 3) := by decide +kernel
theorem dX5_readLine_37 : decode cX5_readLine 37 = .ok (.ldc 85, 2) := by decide +kernel
theorem dX5_readLine_39 : decode cX5_readLine 39 = .ok (.invokevirtual 75, 3) := by decide +kernel
theorem dX5_readLine_42 : decode cX5_readLine 42 = .ok (.ifCond .eq 16, 3) := by decide +kernel
theorem dX5_readLine_45 : decode cX5_readLine 45 = .ok (.aload_n 0, 1) := by decide +kernel
theorem dX5_readLine_46 : decode cX5_readLine 46 = .ok (.getfield 12, 3) := by decide +kernel
theorem dX5_readLine_49 : decode cX5_readLine 49 = .ok (.iconst 1, 1) := by decide +kernel
theorem dX5_readLine_50 : decode cX5_readLine 50 = .ok (.putfield 79, 3) := by decide +kernel
theorem dX5_readLine_53 : decode cX5_readLine 53 = .ok (.aload_n 0, 1) := by decide +kernel
theorem dX5_readLine_54 : decode cX5_readLine 54 = .ok (.invokevirtual 87, 3) := by decide +kernel
theorem dX5_readLine_57 : decode cX5_readLine 57 = .ok (.ireturn, 1) := by decide +kernel
theorem dX5_readLine_58 : decode cX5_readLine 58 = .ok (.aload_n 0, 1) := by decide +kernel
theorem dX5_readLine_59 : decode cX5_readLine 59 = .ok (.getfield 12, 3) := by decide +kernel
theorem dX5_readLine_62 : decode cX5_readLine 62 = .ok (.iconst 2, 1) := by decide +kernel
theorem dX5_readLine_63 : decode cX5_readLine 63 = .ok (.putfield 79, 3) := by decide +kernel
theorem dX5_readLine_66 : decode cX5_readLine 66 = .ok (.aload_n 0, 1) := by decide +kernel
theorem dX5_readLine_67 : decode cX5_readLine 67 = .ok (.getfield 31, 3) := by decide +kernel
theorem dX5_readLine_70 : decode cX5_readLine 70 = .ok (.ldc 90, 2) := by decide +kernel
theorem dX5_readLine_72 : decode cX5_readLine 72 = .ok (.invokevirtual 75, 3) := by decide +kernel
theorem dX5_readLine_75 : decode cX5_readLine 75 = .ok (.ireturn, 1) := by decide +kernel
theorem dX5_readContact_0 : decode cX5_readContact 0 = .ok (.aload_n 0, 1) := by decide +kernel
theorem dX5_readContact_1 : decode cX5_readContact 1 = .ok (.getfield 12, 3) := by decide +kernel
theorem dX5_readContact_4 : decode cX5_readContact 4 = .ok (.iconst (-1), 1) := by decide +kernel
theorem dX5_readContact_5 : decode cX5_readContact 5 = .ok (.putfield 92, 3) := by decide +kernel
theorem dX5_readContact_8 : decode cX5_readContact 8 = .ok (.aload_n 0, 1) := by decide +kernel
theorem dX5_readContact_9 : decode cX5_readContact 9 = .ok (.getfield 12, 3) := by decide +kernel
theorem dX5_readContact_12 : decode cX5_readContact 12 = .ok (.iconst (-1), 1) := by decide +kernel
theorem dX5_readContact_13 : decode cX5_readContact 13 = .ok (.putfield 95, 3) := by decide +kernel
theorem dX5_readContact_16 : decode cX5_readContact 16 = .ok (.aload_n 0, 1) := by decide +kernel
theorem dX5_readContact_17 : decode cX5_readContact 17 = .ok (.invokevirtual 98, 3) := by decide +kernel
theorem dX5_readContact_20 : decode cX5_readContact 20 = .ok (.ifCond .ne 5, 3) := by decide +kernel
theorem dX5_readContact_23 : decode cX5_readContact 23 = .ok (.iconst 0, 1) := by decide +kernel
theorem dX5_readContact_24 : decode cX5_readContact 24 = .ok (.ireturn, 1) := by decide +kernel
theorem dX5_readContact_25 : decode cX5_readContact 25 = .ok (.aload_n 0, 1) := by decide +kernel
theorem dX5_readContact_26 : decode cX5_readContact 26 = .ok (.getfield 31, 3) := by decide +kernel
theorem dX5_readContact_29 : decode cX5_readContact 29 = .ok (.invokevirtual 70, 3) := by decide +kernel
theorem dX5_readContact_32 : decode cX5_readContact 32 = .ok (.pop, 1) := by decide +kernel
theorem dX5_readContact_33 : decode cX5_readContact 33 = .ok (.aload_n 0, 1) := by decide +kernel
theorem dX5_readContact_34 : decode cX5_readContact 34 = .ok (.getfield 12, 3) := by decide +kernel
theorem dX5_readContact_37 : decode cX5_readContact 37 = .ok (.aload_n 0, 1) := by decide +kernel
theorem dX5_readContact_38 : decode cX5_readContact 38 = .ok (.getfield 31, 3) := by decide +kernel
theorem dX5_readContact_41 : decode cX5_readContact 41 = .ok (.invokevirtual 101, 3) := by decide +kernel
theorem dX5_readContact_44 : decode cX5_readContact 44 = .ok (.putfield 105, 3) := by decide +kernel
theorem dX5_readContact_47 : decode cX5_readContact 47 = .ok (.aload_n 0, 1) := by decide +kernel
theorem dX5_readContact_48 : decode cX5_readContact 48 = .ok (.getfield 12, 3) := by decide +kernel
theorem dX5_readContact_51 : decode cX5_readContact 51 = .ok (.getfield 105, 3) := by decide +kernel
theorem dX5_readContact_54 : decode cX5_readContact 54 = .ok (.lconst 0, 1) := by decide +kernel
theorem dX5_readContact_55 : decode cX5_readContact 55 = .ok (.lcmp, 1) := by decide +kernel
theorem dX5_readContact_56 : decode cX5_readContact 56 = .ok (.ifCond .ne 5, 3) := by decide +kernel
theorem dX5_readContact_59 : decode cX5_readContact 59 = .ok (.iconst 0, 1) := by decide +kernel
theorem dX5_readContact_60 : decode cX5_readContact 60 = .ok (.ireturn, 1) := by decide +kernel
theorem dX5_readContact_61 : decode cX5_readContact 61 = .ok (.aload_n 0, 1) := by decide +kernel
theorem dX5_readContact_62 : decode cX5_readContact 62 = .ok (.getfield 31, 3) := by decide +kernel
theorem dX5_readContact_65 : decode cX5_readContact 65 = .ok (.invokevirtual 70, 3) := by decide +kernel
theorem dX5_readContact_68 : decode cX5_readContact 68 = .ok (.ifCond .ne 5, 3) := by decide +kernel
theorem dX5_readContact_71 : decode cX5_readContact 71 = .ok (.iconst 1, 1) := by decide +kernel
theorem dX5_readContact_72 : decode cX5_readContact 72 = .ok (.ireturn, 1) := by decide +kernel
theorem dX5_readContact_73 : decode cX5_readContact 73 = .ok (.aload_n 0, 1) := by decide +kernel
theorem dX5_readContact_74 : decode cX5_readContact 74 = .ok (.getfield 12, 3) := by decide +kernel
theorem dX5_readContact_77 : decode cX5_readContact 77 = .ok (.aload_n 0, 1) := by decide +kernel
theorem dX5_readContact_78 : decode cX5_readContact 78 = .ok (.getfield 31, 3) := by decide +kernel
theorem dX5_readContact_81 : decode cX5_readContact 81 = .ok (.iconst 5, 1) := by decide +kernel
theorem dX5_readContact_82 : decode cX5_readContact 82 = .ok (.invokevirtual 109, 3) := by decide +kernel
theorem dX5_readContact_85 : decode cX5_readContact 85 = .ok (.l2i, 1) := by decide +kernel
theorem dX5_readContact_86 : decode cX5_readContact 86 = .ok (.putfield 92, 3) := by decide +kernel
theorem dX5_readContact_89 : decode cX5_readContact 89 = .ok (.aload_n 0, 1) := by decide +kernel
theorem dX5_readContact_90 : decode cX5_readContact 90 = .ok (.getfield 12, 3) := by decide +kernel
theorem dX5_readContact_93 : decode cX5_readContact 93 = .ok (.getfield 92, 3) := by decide +kernel
theorem dX5_readContact_96 : decode cX5_readContact 96 = .ok (.iconst (-1), 1) := by decide +kernel
theorem dX5_readContact_97 : decode cX5_readContact 97 = .ok (.if_icmp .ne 5, 3) := by decide +kernel
