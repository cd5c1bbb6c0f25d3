theorem dX11_init_0 : decode cX11_init 0 = .ok (.aload_n 0, 1) := by decide +kernel
theorem dX11_init_1 : decode cX11_init 1 = .ok (.invokespecial 1, 3) := by decide +kernel
theorem dX11_init_4 : decode cX11_init 4 = .ok (.aload_n 0, 1) := by decide +kernel
theorem dX11_init_5 : decode cX11_init 5 = .ok (.sipush 723, 3) := by decide +kernel
theorem dX11_init_8 : decode cX11_init 8 = .ok (.newarray .int, 2) := by decide +kernel
theorem dX11_init_10 : decode cX11_init 10 = .ok (.putfield 9, 3) := by decide +kernel
theorem dX11_init_13 : decode cX11_init 13 = .ok (.aload_n 0, 1) := by decide +kernel
theorem dX11_init_14 : decode cX11_init 14 = .ok (.sipush 723, 3) := by decide +kernel
theorem dX11_init_17 : decode cX11_init 17 = .ok (.newarray .int, 2) := by decide +kernel
theorem dX11_init_19 : decode cX11_init 19 = .ok (.putfield 13, 3) := by decide +kernel
theorem dX11_init_22 : decode cX11_init 22 = .ok (.aload_n 0, 1) := by decide +kernel
theorem dX11_init_23 : decode cX11_init 23 = .ok (.sipush 723, 3) := by decide +kernel
theorem dX11_init_26 : decode cX11_init 26 = .ok (.newarray .int, 2) := by decide +kernel
theorem dX11_init_28 : decode cX11_init 28 = .ok (.putfield 16, 3) := by decide +kernel
theorem dX11_init_31 : decode cX11_init 31 = .ok (.aload_n 0, 1) := by decide +kernel
theorem dX11_init_32 : decode cX11_init 32 = .ok (.sipush 723, 3) := by decide +kernel
theorem dX11_init_35 : decode cX11_init 35 = .ok (.newarray .int, 2) := by decide +kernel
theorem dX11_init_37 : decode cX11_init 37 = .ok (.putfield 19, 3) := by decide +kernel
theorem dX11_init_40 : decode cX11_init 40 = .ok (.aload_n 0, 1) := by decide +kernel
theorem dX11_init_41 : decode cX11_init 41 = .ok (.bipush 40, 2) := by decide +kernel
theorem dX11_init_43 : decode cX11_init 43 = .ok (.newarray .int, 2) := by decide +kernel
theorem dX11_init_45 : decode cX11_init 45 = .ok (.putfield 22, 3) := by decide +kernel
theorem dX11_init_48 : decode cX11_init 48 = .ok (.aload_n 0, 1) := by decide +kernel
theorem dX11_init_49 : decode cX11_init 49 = .ok (.sipush 240, 3) := by decide +kernel
theorem dX11_init_52 : decode cX11_init 52 = .ok (.newarray .int, 2) := by decide +kernel
theorem dX11_init_54 : decode cX11_init 54 = .ok (.putfield 25, 3) := by decide +kernel
theorem dX11_init_57 : decode cX11_init 57 = .ok (.aload_n 0, 1) := by decide +kernel
theorem dX11_init_58 : decode cX11_init 58 = .ok (.sipush 2400, 3) := by decide +kernel
theorem dX11_init_61 : decode cX11_init 61 = .ok (.newarray .int, 2) := by decide +kernel
theorem dX11_init_63 : decode cX11_init 63 = .ok (.putfield 28, 3) := by decide +kernel
theorem dX11_init_66 : decode cX11_init 66 = .ok (.aload_n 0, 1) := by decide +kernel
theorem dX11_init_67 : decode cX11_init 67 = .ok (.bipush 80, 2) := by decide +kernel
theorem dX11_init_69 : decode cX11_init 69 = .ok (.newarray .int, 2) := by decide +kernel
theorem dX11_init_71 : decode cX11_init 71 = .ok (.putfield 31, 3) := by decide +kernel
theorem dX11_init_74 : decode cX11_init 74 = .ok (.aload_n 0, 1) := by decide +kernel
theorem dX11_init_75 : decode cX11_init 75 = .ok (.bipush 58, 2) := by decide +kernel
theorem dX11_init_77 : decode cX11_init 77 = .ok (.newarray .int, 2) := by decide +kernel
theorem dX11_init_79 : decode cX11_init 79 = .ok (.putfield 34, 3) := by decide +kernel
theorem dX11_init_82 : decode cX11_init 82 = .ok (.aload_n 0, 1) := by decide +kernel
theorem dX11_init_83 : decode cX11_init 83 = .ok (.iconst (-1), 1) := by decide +kernel
theorem dX11_init_84 : decode cX11_init 84 = .ok (.putfield 37, 3) := by decide +kernel
theorem dX11_init_87 : decode cX11_init 87 = .ok (.aload_n 0, 1) := by decide +kernel
theorem dX11_init_88 : decode cX11_init 88 = .ok (.bipush 40, 2) := by decide +kernel
theorem dX11_init_90 : decode cX11_init 90 = .ok (.newarray .int, 2) := by decide +kernel
theorem dX11_init_92 : decode cX11_init 92 = .ok (.putfield 41, 3) := by decide +kernel
theorem dX11_init_95 : decode cX11_init 95 = .ok (.aload_n 0, 1) := by decide +kernel
theorem dX11_init_96 : decode cX11_init 96 = .ok (.getfield 9, 3) := by decide +kernel
theorem dX11_init_99 : decode cX11_init 99 = .ok (.sipush 229, 3) := by decide +kernel
theorem dX11_init_102 : decode cX11_init 102 = .ok (.bipush 70, 2) := by decide +kernel
theorem dX11_init_104 : decode cX11_init 104 = .ok (.iastore, 1) := by decide +kernel
theorem dX11_init_105 : decode cX11_init 105 = .ok (.iconst 0, 1) := by decide +kernel
theorem dX11_init_106 : decode cX11_init 106 = .ok (.istore_n 1, 1) := by decide +kernel
theorem dX11_init_107 : decode cX11_init 107 = .ok (.iload_n 1, 1) := by decide +kernel
theorem dX11_init_108 : decode cX11_init 108 = .ok (.iconst 4, 1) := by decide +kernel
theorem dX11_init_109 : decode cX11_init 109 = .ok (.if_icmp .ge 93, 3) := by decide +kernel
theorem dX11_init_112 : decode cX11_init 112 = .ok (.sipush 145, 3) := by decide +kernel
theorem dX11_init_115 : decode cX11_init 115 = .ok (.bipush 21, 2) := by decide +kernel
theorem dX11_init_117 : decode cX11_init 117 = .ok (.iload_n 1, 1) := by decide +kernel
theorem dX11_init_118 : decode cX11_init 118 = .ok (.imul, 1) := by decide +kernel
theorem dX11_init_119 : decode cX11_init 119 = .ok (.iadd, 1) := by decide +kernel
theorem dX11_init_120 : decode cX11_init 120 = .ok (.istore_n 2, 1) := by decide +kernel
theorem dX11_init_121 : decode cX11_init 121 = .ok (.aload_n 0, 1) := by decide +kernel
theorem dX11_init_122 : decode cX11_init 122 = .ok (.getfield 9, 3) := by decide +kernel
theorem dX11_init_125 : decode cX11_init 125 = .ok (.iload_n 2, 1) := by decide +kernel
theorem dX11_init_126 : decode cX11_init 126 = .ok (.iconst 1, 1) := by decide +kernel
theorem dX11_init_127 : decode cX11_init 127 = .ok (.iadd, 1) := by decide +kernel
theorem dX11_init_128 : decode cX11_init 128 = .ok (.iconst 3, 1) := by decide +kernel
theorem dX11_init_129 : decode cX11_init 129 = .ok (.iastore, 1) := by decide +kernel
theorem dX11_init_130 : decode cX11_init 130 = .ok (.aload_n 0, 1) := by decide +kernel
theorem dX11_init_131 : decode cX11_init 131 = .ok (.getfield 9, 3) := by decide +kernel
theorem dX11_init_134 : decode cX11_init 134 = .ok (.iload_n 2, 1) := by decide +kernel
theorem dX11_init_135 : decode cX11_init 135 = .ok (.iconst 2, 1) := by decide +kernel
theorem dX11_init_136 : decode cX11_init 136 = .ok (.iadd, 1) := by decide +kernel
theorem dX11_init_137 : decode cX11_init 137 = .ok (.iconst 5, 1) := by decide +kernel
theorem dX11_init_138 : decode cX11_init 138 = .ok (.iastore, 1) := by decide +kernel
theorem dX11_init_139 : decode cX11_init 139 = .ok (.aload_n 0, 1) := by decide +kernel
theorem dX11_init_140 : decode cX11_init 140 = .ok (.getfield 9, 3) := by decide +kernel
theorem dX11_init_143 : decode cX11_init 143 = .ok (.iload_n 2, 1) := by decide +kernel
theorem dX11_init_144 : decode cX11_init 144 = .ok (.iconst 3, 1) := by decide +kernel
theorem dX11_init_145 : decode cX11_init 145 = .ok (.iadd, 1) := by decide +kernel
theorem dX11_init_146 : decode cX11_init 146 = .ok (.bipush 50, 2) := by decide +kernel
theorem dX11_init_148 : decode cX11_init 148 = .ok (.iastore, 1) := by decide +kernel
theorem dX11_init_149 : decode cX11_init 149 = .ok (.aload_n 0, 1) := by decide +kernel
theorem dX11_init_150 : decode cX11_init 150 = .ok (.getfield 9, 3) := by decide +kernel
theorem dX11_init_153 : decode cX11_init 153 = .ok (.iload_n 2, 1) := by decide +kernel
theorem dX11_init_154 : decode cX11_init 154 = .ok (.iconst 4, 1) := by decide +kernel
theorem dX11_init_155 : decode cX11_init 155 = .ok (.iadd, 1) := by decide +kernel
theorem dX11_init_156 : decode cX11_init 156 = .ok (.bipush 20, 2) := by decide +kernel
theorem dX11_init_158 : decode cX11_init 158 = .ok (.iastore, 1) := by decide +kernel
theorem dX11_init_159 : decode cX11_init 159 = .ok (.aload_n 0, 1) := by decide +kernel
theorem dX11_init_160 : decode cX11_init 160 = .ok (.getfield 9, 3) := by decide +kernel
theorem dX11_init_163 : decode cX11_init 163 = .ok (.iload_n 2, 1) := by decide +kernel
theorem dX11_init_164 : decode cX11_init 164 = .ok (.iconst 5, 1) := by decide +kernel
theorem dX11_init_165 : decode cX11_init 165 = .ok (.iadd, 1) := by decide +kernel
theorem dX11_init_166 : decode cX11_init 166 = .ok (.sipush 300, 3) := by decide +kernel
theorem dX11_init_169 : decode cX11_init 169 = .ok (.iastore, 1) := by decide +kernel
theorem dX11_init_170 : decode cX11_init 170 = .ok (.iconst 0, 1) := by decide +kernel
theorem dX11_init_171 : decode cX11_init 171 = .ok (.istore_n 3, 1) := by decide +kernel
theorem dX11_init_172 : decode cX11_init 172 = .ok (.iload_n 3, 1) := by decide +kernel
theorem dX11_init_173 : decode cX11_init 173 = .ok (.bipush 10, 2) := by decide +kernel
theorem dX11_init_175 : decode cX11_init 175 = .ok (.if_icmp .ge 21, 3) := by decide +kernel
theorem dX11_init_178 : decode cX11_init 178 = .ok (.aload_n 0, 1) := by decide +kernel
theorem dX11_init_179 : decode cX11_init 179 = .ok (.getfield 9, 3) := by decide +kernel
theorem dX11_init_182 : decode cX11_init 182 = .ok (.iload_n 2, 1) := by decide +kernel
theorem dX11_init_183 : decode cX11_init 183 = .ok (.bipush 11, 2) := by decide +kernel
theorem dX11_init_185 : decode cX11_init 185 = .ok (.iadd, 1) := by decide +kernel
theorem dX11_init_186 : decode cX11_init 186 = .ok (.iload_n 3, 1) := by decide +kernel
theorem dX11_init_187 : decode cX11_init 187 = .ok (.iadd, 1) := by decide +kernel
theorem dX11_init_188 : decode cX11_init 188 = .ok (.iconst (-1), 1) := by decide +kernel
theorem dX11_init_189 : decode cX11_init 189 = .ok (.iastore, 1) := by decide +kernel
theorem dX11_init_190 : decode cX11_init 190 = .ok (.iinc 3 1, 3) := by decide +kernel
theorem dX11_init_193 : decode cX11_init 193 = .ok (.goto (-21), 3) := by decide +kernel
theorem dX11_init_196 : decode cX11_init 196 = .ok (.iinc 1 1, 3) := by decide +kernel
theorem dX11_init_199 : decode cX11_init 199 = .ok (.goto (-92), 3) := by decide +kernel
theorem dX11_init_202 : decode cX11_init 202 = .ok (.return_, 1) := by decide +kernel
theorem dX11_isIn_0 : decode cX11_isIn 0 = .ok (.iload_n 0, 1) := by decide +kernel
theorem dX11_isIn_1 : decode cX11_isIn 1 = .ok (.iload_n 1, 1) := by decide +kernel
theorem dX11_isIn_2 : decode cX11_isIn 2 = .ok (.if_icmp .lt 12, 3) := by decide +kernel
theorem dX11_isIn_5 : decode cX11_isIn 5 = .ok (.iload_n 0, 1) := by decide +kernel
theorem dX11_isIn_6 : decode cX11_isIn 6 = .ok (.iload_n 2, 1) := by decide +kernel
theorem dX11_isIn_7 : decode cX11_isIn 7 = .ok (.if_icmp .gt 7, 3) := by decide +kernel
theorem dX11_isIn_10 : decode cX11_isIn 10 = .ok (.iconst 1, 1) := by decide +kernel
theorem dX11_isIn_11 : decode cX11_isIn 11 = .ok (.goto 4, 3) := by decide +kernel
theorem dX11_isIn_14 : decode cX11_isIn 14 = .ok (.iconst 0, 1) := by decide +kernel
theorem dX11_isIn_15 : decode cX11_isIn 15 = .ok (.ireturn, 1) := by decide +kernel
theorem dX11_copies_0 : decode cX11_copies 0 = .ok (.iconst 0, 1) := by decide +kernel
theorem dX11_copies_1 : decode cX11_copies 1 = .ok (.istore_n 2, 1) := by decide +kernel
theorem dX11_copies_2 : decode cX11_copies 2 = .ok (.iload_n 2, 1) := by decide +kernel
theorem dX11_copies_3 : decode cX11_copies 3 = .ok (.sipush 723, 3) := by decide +kernel
theorem dX11_copies_6 : decode cX11_copies 6 = .ok (.if_icmp .ge 15, 3) := by decide +kernel
theorem dX11_copies_9 : decode cX11_copies 9 = .ok (.aload_n 1, 1) := by decide +kernel
theorem dX11_copies_10 : decode cX11_copies 10 = .ok (.iload_n 2, 1) := by decide +kernel
theorem dX11_copies_11 : decode cX11_copies 11 = .ok (.aload_n 0, 1) := by decide +kernel
theorem dX11_copies_12 : decode cX11_copies 12 = .ok (.iload_n 2, 1) := by decide +kernel
theorem dX11_copies_13 : decode cX11_copies 13 = .ok (.iaload, 1) := by decide +kernel
theorem dX11_copies_14 : decode cX11_copies 14 = .ok (.iastore, 1) := by decide +kernel
theorem dX11_copies_15 : decode cX11_copies 15 = .ok (.iinc 2 1, 3) := by decide +kernel
theorem dX11_copies_18 : decode cX11_copies 18 = .ok (.goto (-16), 3) := by decide +kernel
theorem dX11_copies_21 : decode cX11_copies 21 = .ok (.return_, 1) := by decide +kernel
theorem dX11_of_0 : decode cX11_of 0 = .ok (.aload_n 0, 1) := by decide +kernel
theorem dX11_of_1 : decode cX11_of 1 = .ok (.getfield 9, 3) := by decide +kernel
theorem dX11_of_4 : decode cX11_of 4 = .ok (.iconst 0, 1) := by decide +kernel
theorem dX11_of_5 : decode cX11_of 5 = .ok (.bipush 12, 2) := by decide +kernel
theorem dX11_of_7 : decode cX11_of 7 = .ok (.iload_n 1, 1) := by decide +kernel
theorem dX11_of_8 : decode cX11_of 8 = .ok (.imul, 1) := by decide +kernel
theorem dX11_of_9 : decode cX11_of 9 = .ok (.iadd, 1) := by decide +kernel
theorem dX11_of_10 : decode cX11_of 10 = .ok (.iload_n 2, 1) := by decide +kernel
theorem dX11_of_11 : decode cX11_of 11 = .ok (.iadd, 1) := by decide +kernel
theorem dX11_of_12 : decode cX11_of 12 = .ok (.iaload, 1) := by decide +kernel
theorem dX11_of_13 : decode cX11_of 13 = .ok (.ireturn, 1) := by decide +kernel
theorem dX11_sets_0 : decode cX11_sets 0 = .ok (.aload_n 0, 1) := by decide +kernel
theorem dX11_sets_1 : decode cX11_sets 1 = .ok (.getfield 9, 3) := by decide +kernel
theorem dX11_sets_4 : decode cX11_sets 4 = .ok (.iconst 0, 1) := by decide +kernel
theorem dX11_sets_5 : decode cX11_sets 5 = .ok (.bipush 12, 2) := by decide +kernel
theorem dX11_sets_7 : decode cX11_sets 7 = .ok (.iload_n 1, 1) := by decide +kernel
theorem dX11_sets_8 : decode cX11_sets 8 = .ok (.imul, 1) := by decide +kernel
theorem dX11_sets_9 : decode cX11_sets 9 = .ok (.iadd, 1) := by decide +kernel
theorem dX11_sets_10 : decode cX11_sets 10 = .ok (.iload_n 2, 1) := by decide +kernel
theorem dX11_sets_11 : decode cX11_sets 11 = .ok (.iadd, 1) := by decide +kernel
theorem dX11_sets_12 : decode cX11_sets 12 = .ok (.iload_n 3, 1) := by decide +kernel
theorem dX11_sets_13 : decode cX11_sets 13 = .ok (.iastore, 1) := by decide +kernel
theorem dX11_sets_14 : decode cX11_sets 14 = .ok (.return_, 1) := by decide +kernel
theorem dX11_isBackend_0 : decode cX11_isBackend 0 = .ok (.iload_n 1, 1) := by decide +kernel
theorem dX11_isBackend_1 : decode cX11_isBackend 1 = .ok (.iconst 0, 1) := by decide +kernel
theorem dX11_isBackend_2 : decode cX11_isBackend 2 = .ok (.aload_n 0, 1) := by decide +kernel
theorem dX11_isBackend_3 : decode cX11_isBackend 3 = .ok (.getfield 9, 3) := by decide +kernel
theorem dX11_isBackend_6 : decode cX11_isBackend 6 = .ok (.sipush 144, 3) := by decide +kernel
theorem dX11_isBackend_9 : decode cX11_isBackend 9 = .ok (.iaload, 1) := by decide +kernel
theorem dX11_isBackend_10 : decode cX11_isBackend 10 = .ok (.iconst 1, 1) := by decide +kernel
theorem dX11_isBackend_11 : decode cX11_isBackend 11 = .ok (.isub, 1) := by decide +kernel
theorem dX11_isBackend_12 : decode cX11_isBackend 12 = .ok (.invokestatic 44, 3) := by decide +kernel
theorem dX11_isBackend_15 : decode cX11_isBackend 15 = .ok (.ireturn, 1) := by decide +kernel
theorem dX11_changes_0 : decode cX11_changes 0 = .ok (.aload_n 0, 1) := by decide +kernel
theorem dX11_changes_1 : decode cX11_changes 1 = .ok (.iconst 0, 1) := by decide +kernel
theorem dX11_changes_2 : decode cX11_changes 2 = .ok (.putfield 48, 3) := by decide +kernel
theorem dX11_changes_5 : decode cX11_changes 5 = .ok (.aload_n 0, 1) := by decide +kernel
theorem dX11_changes_6 : decode cX11_changes 6 = .ok (.iconst 0, 1) := by decide +kernel
theorem dX11_changes_7 : decode cX11_changes 7 = .ok (.putfield 52, 3) := by decide +kernel
theorem dX11_changes_10 : decode cX11_changes 10 = .ok (.return_, 1) := by decide +kernel
theorem dX11_addBackend_0 : decode cX11_addBackend 0 = .ok (.iload_n 1, 1) := by decide +kernel
theorem dX11_addBackend_1 : decode cX11_addBackend 1 = .ok (.iconst 0, 1) := by decide +kernel
theorem dX11_addBackend_2 : decode cX11_addBackend 2 = .ok (.iconst 3, 1) := by decide +kernel
theorem dX11_addBackend_3 : decode cX11_addBackend 3 = .ok (.invokestatic 44, 3) := by decide +kernel
theorem dX11_addBackend_6 : decode cX11_addBackend 6 = .ok (.ifCond .eq 22, 3) := by decide +kernel
theorem dX11_addBackend_9 : decode cX11_addBackend 9 = .ok (.iload_n 2, 1) := by decide +kernel
theorem dX11_addBackend_10 : decode cX11_addBackend 10 = .ok (.iconst 0, 1) := by decide +kernel
theorem dX11_addBackend_11 : decode cX11_addBackend 11 = .ok (.iconst 2, 1) := by decide +kernel
theorem dX11_addBackend_12 : decode cX11_addBackend 12 = .ok (.invokestatic 44, 3) := by decide +kernel
theorem dX11_addBackend_15 : decode cX11_addBackend 15 = .ok (.ifCond .eq 13, 3) := by decide +kernel
theorem dX11_addBackend_18 : decode cX11_addBackend 18 = .ok (.iload_n 3, 1) := by decide +kernel
theorem dX11_addBackend_19 : decode cX11_addBackend 19 = .ok (.iconst 0, 1) := by decide +kernel
theorem dX11_addBackend_20 : decode cX11_addBackend 20 = .ok (.bipush 9, 2) := by decide +kernel
theorem dX11_addBackend_22 : decode cX11_addBackend 22 = .ok (.invokestatic 44, 3) := by decide +kernel
theorem dX11_addBackend_25 : decode cX11_addBackend 25 = .ok (.ifCond .ne 6, 3) := by decide +kernel
theorem dX11_addBackend_28 : decode cX11_addBackend 28 = .ok (.bipush (-2), 2) := by decide +kernel
theorem dX11_addBackend_30 : decode cX11_addBackend 30 = .ok (.ireturn, 1) := by decide +kernel
theorem dX11_addBackend_31 : decode cX11_addBackend 31 = .ok (.aload_n 0, 1) := by decide +kernel
theorem dX11_addBackend_32 : decode cX11_addBackend 32 = .ok (.getfield 9, 3) := by decide +kernel
theorem dX11_addBackend_35 : decode cX11_addBackend 35 = .ok (.sipush 144, 3) := by decide +kernel
theorem dX11_addBackend_38 : decode cX11_addBackend 38 = .ok (.iaload, 1) := by decide +kernel
theorem dX11_addBackend_39 : decode cX11_addBackend 39 = .ok (.bipush 12, 2) := by decide +kernel
theorem dX11_addBackend_41 : decode cX11_addBackend 41 = .ok (.if_icmp .ne 6, 3) := by decide +kernel
theorem dX11_addBackend_44 : decode cX11_addBackend 44 = .ok (.bipush (-3), 2) := by decide +kernel
theorem dX11_addBackend_46 : decode cX11_addBackend 46 = .ok (.ireturn, 1) := by decide +kernel
theorem dX11_addBackend_47 : decode cX11_addBackend 47 = .ok (.aload_n 0, 1) := by decide +kernel
theorem dX11_addBackend_48 : decode cX11_addBackend 48 = .ok (.invokevirtual 55, 3) := by decide +kernel
theorem dX11_addBackend_51 : decode cX11_addBackend 51 = .ok (.aload_n 0, 1) := by decide +kernel
theorem dX11_addBackend_52 : decode cX11_addBackend 52 = .ok (.getfield 9, 3) := by decide +kernel
theorem dX11_addBackend_55 : decode cX11_addBackend 55 = .ok (.sipush 144, 3) := by decide +kernel
theorem dX11_addBackend_58 : decode cX11_addBackend 58 = .ok (.iaload, 1) := by decide +kernel
theorem dX11_addBackend_59 : decode cX11_addBackend 59 = .ok (.istore 4, 2) := by decide +kernel
theorem dX11_addBackend_61 : decode cX11_addBackend 61 = .ok (.aload_n 0, 1) := by decide +kernel
theorem dX11_addBackend_62 : decode cX11_addBackend 62 = .ok (.getfield 9, 3) := by decide +kernel
theorem dX11_addBackend_65 : decode cX11_addBackend 65 = .ok (.sipush 144, 3) := by decide +kernel
theorem dX11_addBackend_68 : decode cX11_addBackend 68 = .ok (.dup2, 1) := by decide +kernel
theorem dX11_addBackend_69 : decode cX11_addBackend 69 = .ok (.iaload, 1) := by decide +kernel
theorem dX11_addBackend_70 : decode cX11_addBackend 70 = .ok (.iconst 1, 1) := by decide +kernel
theorem dX11_addBackend_71 : decode cX11_addBackend 71 = .ok (.iadd, 1) := by decide +kernel
theorem dX11_addBackend_72 : decode cX11_addBackend 72 = .ok (.iastore, 1) := by decide +kernel
theorem dX11_addBackend_73 : decode cX11_addBackend 73 = .ok (.iconst 0, 1) := by decide +kernel
theorem dX11_addBackend_74 : decode cX11_addBackend 74 = .ok (.istore 5, 2) := by decide +kernel
theorem dX11_addBackend_76 : decode cX11_addBackend 76 = .ok (.iload 5, 2) := by decide +kernel
theorem dX11_addBackend_78 : decode cX11_addBackend 78 = .ok (.bipush 12, 2) := by decide +kernel
theorem dX11_addBackend_80 : decode cX11_addBackend 80 = .ok (.if_icmp .ge 18, 3) := by decide +kernel
theorem dX11_addBackend_83 : decode cX11_addBackend 83 = .ok (.aload_n 0, 1) := by decide +kernel
theorem dX11_addBackend_84 : decode cX11_addBackend 84 = .ok (.iload 4, 2) := by decide +kernel
theorem dX11_addBackend_86 : decode cX11_addBackend 86 = .ok (.iload 5, 2) := by decide +kernel
theorem dX11_addBackend_88 : decode cX11_addBackend 88 = .ok (.iconst 0, 1) := by decide +kernel
theorem dX11_addBackend_89 : decode cX11_addBackend 89 = .ok (.invokevirtual 58, 3) := by decide +kernel
theorem dX11_addBackend_92 : decode cX11_addBackend 92 = .ok (.iinc 5 1, 3) := by decide +kernel
theorem dX11_addBackend_95 : decode cX11_addBackend 95 = .ok (.goto (-19), 3) := by decide +kernel
theorem dX11_addBackend_98 : decode cX11_addBackend 98 = .ok (.aload_n 0, 1) := by decide +kernel
theorem dX11_addBackend_99 : decode cX11_addBackend 99 = .ok (.iload 4, 2) := by decide +kernel
theorem dX11_addBackend_101 : decode cX11_addBackend 101 = .ok (.iconst 0, 1) := by decide +kernel
theorem dX11_addBackend_102 : decode cX11_addBackend 102 = .ok (.iload_n 1, 1) := by decide +kernel
theorem dX11_addBackend_103 : decode cX11_addBackend 103 = .ok (.invokevirtual 58, 3) := by decide +kernel
theorem dX11_addBackend_106 : decode cX11_addBackend 106 = .ok (.aload_n 0, 1) := by decide +kernel
theorem dX11_addBackend_107 : decode cX11_addBackend 107 = .ok (.iload 4, 2) := by decide +kernel
theorem dX11_addBackend_109 : decode cX11_addBackend 109 = .ok (.iconst 1, 1) := by decide +kernel
theorem dX11_addBackend_110 : decode cX11_addBackend 110 = .ok (.iload_n 2, 1) := by decide +kernel
theorem dX11_addBackend_111 : decode cX11_addBackend 111 = .ok (.invokevirtual 58, 3) := by decide +kernel
theorem dX11_addBackend_114 : decode cX11_addBackend 114 = .ok (.aload_n 0, 1) := by decide +kernel
theorem dX11_addBackend_115 : decode cX11_addBackend 115 = .ok (.iload 4, 2) := by decide +kernel
theorem dX11_addBackend_117 : decode cX11_addBackend 117 = .ok (.iconst 2, 1) := by decide +kernel
theorem dX11_addBackend_118 : decode cX11_addBackend 118 = .ok (.iload_n 3, 1) := by decide +kernel
theorem dX11_addBackend_119 : decode cX11_addBackend 119 = .ok (.invokevirtual 58, 3) := by decide +kernel
theorem dX11_addBackend_122 : decode cX11_addBackend 122 = .ok (.aload_n 0, 1) := by decide +kernel
theorem dX11_addBackend_123 : decode cX11_addBackend 123 = .ok (.iload 4, 2) := by decide +kernel
theorem dX11_addBackend_125 : decode cX11_addBackend 125 = .ok (.iconst 3, 1) := by decide +kernel
theorem dX11_addBackend_126 : decode cX11_addBackend 126 = .ok (.sipush 255, 3) := by decide +kernel
theorem dX11_addBackend_129 : decode cX11_addBackend 129 = .ok (.invokevirtual 58, 3) := by decide +kernel
theorem dX11_addBackend_132 : decode cX11_addBackend 132 = .ok (.iload 4, 2) := by decide +kernel
theorem dX11_addBackend_134 : decode cX11_addBackend 134 = .ok (.ireturn, 1) := by decide +kernel
theorem dX11_put_0 : decode cX11_put 0 = .ok (.aload_n 0, 1) := by decide +kernel
theorem dX11_put_1 : decode cX11_put 1 = .ok (.iload_n 1, 1) := by decide +kernel
theorem dX11_put_2 : decode cX11_put 2 = .ok (.invokevirtual 62, 3) := by decide +kernel
theorem dX11_put_5 : decode cX11_put 5 = .ok (.ifCond .ne 5, 3) := by decide +kernel
theorem dX11_put_8 : decode cX11_put 8 = .ok (.iconst (-1), 1) := by decide +kernel
theorem dX11_put_9 : decode cX11_put 9 = .ok (.ireturn, 1) := by decide +kernel
theorem dX11_put_10 : decode cX11_put 10 = .ok (.iload_n 3, 1) := by decide +kernel
theorem dX11_put_11 : decode cX11_put 11 = .ok (.iconst 0, 1) := by decide +kernel
theorem dX11_put_12 : decode cX11_put 12 = .ok (.iload 4, 2) := by decide +kernel
theorem dX11_put_14 : decode cX11_put 14 = .ok (.invokestatic 44, 3) := by decide +kernel
theorem dX11_put_17 : decode cX11_put 17 = .ok (.ifCond .ne 6, 3) := by decide +kernel
theorem dX11_put_20 : decode cX11_put 20 = .ok (.bipush (-2), 2) := by decide +kernel
theorem dX11_put_22 : decode cX11_put 22 = .ok (.ireturn, 1) := by decide +kernel
theorem dX11_put_23 : decode cX11_put 23 = .ok (.aload_n 0, 1) := by decide +kernel
theorem dX11_put_24 : decode cX11_put 24 = .ok (.invokevirtual 55, 3) := by decide +kernel
theorem dX11_put_27 : decode cX11_put 27 = .ok (.aload_n 0, 1) := by decide +kernel
theorem dX11_put_28 : decode cX11_put 28 = .ok (.iload_n 1, 1) := by decide +kernel
theorem dX11_put_29 : decode cX11_put 29 = .ok (.iload_n 2, 1) := by decide +kernel
theorem dX11_put_30 : decode cX11_put 30 = .ok (.invokevirtual 66, 3) := by decide +kernel
theorem dX11_put_33 : decode cX11_put 33 = .ok (.istore 5, 2) := by decide +kernel
theorem dX11_put_35 : decode cX11_put 35 = .ok (.aload_n 0, 1) := by decide +kernel
theorem dX11_put_36 : decode cX11_put 36 = .ok (.iload_n 1, 1) := by decide +kernel
theorem dX11_put_37 : decode cX11_put 37 = .ok (.iload_n 2, 1) := by decide +kernel
theorem dX11_put_38 : decode cX11_put 38 = .ok (.iload_n 3, 1) := by decide +kernel
theorem dX11_put_39 : decode cX11_put 39 = .ok (.invokevirtual 58, 3) := by decide +kernel
theorem dX11_put_42 : decode cX11_put 42 = .ok (.iload 5, 2) := by decide +kernel
theorem dX11_put_44 : decode cX11_put 44 = .ok (.ireturn, 1) := by decide +kernel
theorem dX11_setWeight_0 : decode cX11_setWeight 0 = .ok (.aload_n 0, 1) := by decide +kernel
theorem dX11_setWeight_1 : decode cX11_setWeight 1 = .ok (.iload_n 1, 1) := by decide +kernel
theorem dX11_setWeight_2 : decode cX11_setWeight 2 = .ok (.iconst 2, 1) := by decide +kernel
theorem dX11_setWeight_3 : decode cX11_setWeight 3 = .ok (.iload_n 2, 1) := by decide +kernel
theorem dX11_setWeight_4 : decode cX11_setWeight 4 = .ok (.bipush 9, 2) := by decide +kernel
theorem dX11_setWeight_6 : decode cX11_setWeight 6 = .ok (.invokevirtual 70, 3) := by decide +kernel
theorem dX11_setWeight_9 : decode cX11_setWeight 9 = .ok (.ireturn, 1) := by decide +kernel
theorem dX11_setPattern_0 : decode cX11_setPattern 0 = .ok (.aload_n 0, 1) := by decide +kernel
theorem dX11_setPattern_1 : decode cX11_setPattern 1 = .ok (.iload_n 1, 1) := by decide +kernel
theorem dX11_setPattern_2 : decode cX11_setPattern 2 = .ok (.iconst 3, 1) := by decide +kernel
theorem dX11_setPattern_3 : decode cX11_setPattern 3 = .ok (.iload_n 2, 1) := by decide +kernel
theorem dX11_setPattern_4 : decode cX11_setPattern 4 = .ok (.sipush 255, 3) := by decide +kernel
theorem dX11_setPattern_7 : decode cX11_setPattern 7 = .ok (.invokevirtual 70, 3) := by decide +kernel
theorem dX11_setPattern_10 : decode cX11_setPattern 10 = .ok (.ireturn, 1) := by decide +kernel
theorem dX11_configure_0 : decode cX11_configure 0 = .ok (.iload_n 1, 1) := by decide +kernel
theorem dX11_configure_1 : decode cX11_configure 1 = .ok (.iconst 0, 1) := by decide +kernel
theorem dX11_configure_2 : decode cX11_configure 2 = .ok (.iconst 3, 1) := by decide +kernel
theorem dX11_configure_3 : decode cX11_configure 3 = .ok (.invokestatic 44, 3) := by decide +kernel
theorem dX11_configure_6 : decode cX11_configure 6 = .ok (.ifCond .eq 55, 3) := by decide +kernel
theorem dX11_configure_9 : decode cX11_configure 9 = .ok (.iload_n 2, 1) := by decide +kernel
theorem dX11_configure_10 : decode cX11_configure 10 = .ok (.iconst 0, 1) := by decide +kernel
theorem dX11_configure_11 : decode cX11_configure 11 = .ok (.iconst 2, 1) := by decide +kernel
theorem dX11_configure_12 : decode cX11_configure 12 = .ok (.invokestatic 44, 3) := by decide +kernel
theorem dX11_configure_15 : decode cX11_configure 15 = .ok (.ifCond .eq 46, 3) := by decide +kernel
theorem dX11_configure_18 : decode cX11_configure 18 = .ok (.iload_n 3, 1) := by decide +kernel
theorem dX11_configure_19 : decode cX11_configure 19 = .ok (.iconst 1, 1) := by decide +kernel
theorem dX11_configure_20 : decode cX11_configure 20 = .ok (.bipush 9, 2) := by decide +kernel
theorem dX11_configure_22 : decode cX11_configure 22 = .ok (.invokestatic 44, 3) := by decide +kernel
theorem dX11_configure_25 : decode cX11_configure 25 = .ok (.ifCond .eq 36, 3) := by decide +kernel
theorem dX11_configure_28 : decode cX11_configure 28 = .ok (.iload 4, 2) := by decide +kernel
theorem dX11_configure_30 : decode cX11_configure 30 = .ok (.iconst 1, 1) := by decide +kernel
theorem dX11_configure_31 : decode cX11_configure 31 = .ok (.bipush 20, 2) := by decide +kernel
theorem dX11_configure_33 : decode cX11_configure 33 = .ok (.invokestatic 44, 3) := by decide +kernel
theorem dX11_configure_36 : decode cX11_configure 36 = .ok (.ifCond .eq 25, 3) := by decide +kernel
theorem dX11_configure_39 : decode cX11_configure 39 = .ok (.iload 5, 2) := by decide +kernel
theorem dX11_configure_41 : decode cX11_configure 41 = .ok (.iconst 0, 1) := by decide +kernel
theorem dX11_configure_42 : decode cX11_configure 42 = .ok (.bipush 100, 2) := by decide +kernel
theorem dX11_configure_44 : decode cX11_configure 44 = .ok (.invokestatic 44, 3) := by decide +kernel
theorem dX11_configure_47 : decode cX11_configure 47 = .ok (.ifCond .eq 14, 3) := by decide +kernel
theorem dX11_configure_50 : decode cX11_configure 50 = .ok (.iload 6, 2) := by decide +kernel
theorem dX11_configure_52 : decode cX11_configure 52 = .ok (.iconst 0, 1) := by decide +kernel
theorem dX11_configure_53 : decode cX11_configure 53 = .ok (.bipush 100, 2) := by decide +kernel
theorem dX11_configure_55 : decode cX11_configure 55 = .ok (.invokestatic 44, 3) := by decide +kernel
theorem dX11_configure_58 : decode cX11_configure 58 = .ok (.ifCond .ne 6, 3) := by decide +kernel
theorem dX11_configure_61 : decode cX11_configure 61 = .ok (.bipush (-2), 2) := by decide +kernel
theorem dX11_configure_63 : decode cX11_configure 63 = .ok (.ireturn, 1) := by decide +kernel
theorem dX11_configure_64 : decode cX11_configure 64 = .ok (.aload_n 0, 1) := by decide +kernel
theorem dX11_configure_65 : decode cX11_configure 65 = .ok (.invokevirtual 55, 3) := by decide +kernel
theorem dX11_configure_68 : decode cX11_configure 68 = .ok (.sipush 145, 3) := by decide +kernel
theorem dX11_configure_71 : decode cX11_configure 71 = .ok (.bipush 21, 2) := by decide +kernel
theorem dX11_configure_73 : decode cX11_configure 73 = .ok (.iload_n 1, 1) := by decide +kernel
theorem dX11_configure_74 : decode cX11_configure 74 = .ok (.imul, 1) := by decide +kernel
theorem dX11_configure_75 : decode cX11_configure 75 = .ok (.iadd, 1) := by decide +kernel
theorem dX11_configure_76 : decode cX11_configure 76 = .ok (.istore 7, 2) := by decide +kernel
theorem dX11_configure_78 : decode cX11_configure 78 = .ok (.aload_n 0, 1) := by decide +kernel
theorem dX11_configure_79 : decode cX11_configure 79 = .ok (.getfield 9, 3) := by decide +kernel
theorem dX11_configure_82 : decode cX11_configure 82 = .ok (.iload 7, 2) := by decide +kernel
theorem dX11_configure_84 : decode cX11_configure 84 = .ok (.iaload, 1) := by decide +kernel
theorem dX11_configure_85 : decode cX11_configure 85 = .ok (.istore 8, 2) := by decide +kernel
theorem dX11_configure_87 : decode cX11_configure 87 = .ok (.aload_n 0, 1) := by decide +kernel
theorem dX11_configure_88 : decode cX11_configure 88 = .ok (.getfield 9, 3) := by decide +kernel
theorem dX11_configure_91 : decode cX11_configure 91 = .ok (.iload 7, 2) := by decide +kernel
theorem dX11_configure_93 : decode cX11_configure 93 = .ok (.iload_n 2, 1) := by decide +kernel
theorem dX11_configure_94 : decode cX11_configure 94 = .ok (.iastore, 1) := by decide +kernel
theorem dX11_configure_95 : decode cX11_configure 95 = .ok (.aload_n 0, 1) := by decide +kernel
theorem dX11_configure_96 : decode cX11_configure 96 = .ok (.getfield 9, 3) := by decide +kernel
theorem dX11_configure_99 : decode cX11_configure 99 = .ok (.iload 7, 2) := by decide +kernel
theorem dX11_configure_101 : decode cX11_configure 101 = .ok (.iconst 1, 1) := by decide +kernel
theorem dX11_configure_102 : decode cX11_configure 102 = .ok (.iadd, 1) := by decide +kernel
theorem dX11_configure_103 : decode cX11_configure 103 = .ok (.iload_n 3, 1) := by decide +kernel
theorem dX11_configure_104 : decode cX11_configure 104 = .ok (.iastore, 1) := by decide +kernel
theorem dX11_configure_105 : decode cX11_configure 105 = .ok (.aload_n 0, 1) := by decide +kernel
theorem dX11_configure_106 : decode cX11_configure 106 = .ok (.getfield 9, 3) := by decide +kernel
theorem dX11_configure_109 : decode cX11_configure 109 = .ok (.iload 7, 2) := by decide +kernel
theorem dX11_configure_111 : decode cX11_configure 111 = .ok (.iconst 2, 1) := by decide +kernel
theorem dX11_configure_112 : decode cX11_configure 112 = .ok (.iadd, 1) := by decide +kernel
theorem dX11_configure_113 : decode cX11_configure 113 = .ok (.iload 4, 2) := by decide +kernel
theorem dX11_configure_115 : decode cX11_configure 115 = .ok (.iastore, 1) := by decide +kernel
theorem dX11_configure_116 : decode cX11_configure 116 = .ok (.aload_n 0, 1) := by decide +kernel
theorem dX11_configure_117 : decode cX11_configure 117 = .ok (.getfield 9, 3) := by decide +kernel
theorem dX11_configure_120 : decode cX11_configure 120 = .ok (.iload 7, 2) := by decide +kernel
theorem dX11_configure_122 : decode cX11_configure 122 = .ok (.iconst 3, 1) := by decide +kernel
theorem dX11_configure_123 : decode cX11_configure 123 = .ok (.iadd, 1) := by decide +kernel
theorem dX11_configure_124 : decode cX11_configure 124 = .ok (.iload 5, 2) := by decide +kernel
theorem dX11_configure_126 : decode cX11_configure 126 = .ok (.iastore, 1) := by decide +kernel
theorem dX11_configure_127 : decode cX11_configure 127 = .ok (.aload_n 0, 1) := by decide +kernel
theorem dX11_configure_128 : decode cX11_configure 128 = .ok (.getfield 9, 3) := by decide +kernel
theorem dX11_configure_131 : decode cX11_configure 131 = .ok (.iload 7, 2) := by decide +kernel
theorem dX11_configure_133 : decode cX11_configure 133 = .ok (.iconst 4, 1) := by decide +kernel
theorem dX11_configure_134 : decode cX11_configure 134 = .ok (.iadd, 1) := by decide +kernel
theorem dX11_configure_135 : decode cX11_configure 135 = .ok (.iload 6, 2) := by decide +kernel
theorem dX11_configure_137 : decode cX11_configure 137 = .ok (.iastore, 1) := by decide +kernel
theorem dX11_configure_138 : decode cX11_configure 138 = .ok (.iload 8, 2) := by decide +kernel
theorem dX11_configure_140 : decode cX11_configure 140 = .ok (.ireturn, 1) := by decide +kernel
theorem dX11_setZoneLimit_0 : decode cX11_setZoneLimit 0 = .ok (.iload_n 1, 1) := by decide +kernel
theorem dX11_setZoneLimit_1 : decode cX11_setZoneLimit 1 = .ok (.iconst 1, 1) := by decide +kernel
theorem dX11_setZoneLimit_2 : decode cX11_setZoneLimit 2 = .ok (.bipush 100, 2) := by decide +kernel
theorem dX11_setZoneLimit_4 : decode cX11_setZoneLimit 4 = .ok (.invokestatic 44, 3) := by decide +kernel
theorem dX11_setZoneLimit_7 : decode cX11_setZoneLimit 7 = .ok (.ifCond .ne 6, 3) := by decide +kernel
theorem dX11_setZoneLimit_10 : decode cX11_setZoneLimit 10 = .ok (.bipush (-2), 2) := by decide +kernel
theorem dX11_setZoneLimit_12 : decode cX11_setZoneLimit 12 = .ok (.ireturn, 1) := by decide +kernel
theorem dX11_setZoneLimit_13 : decode cX11_setZoneLimit 13 = .ok (.aload_n 0, 1) := by decide +kernel
theorem dX11_setZoneLimit_14 : decode cX11_setZoneLimit 14 = .ok (.invokevirtual 55, 3) := by decide +kernel
theorem dX11_setZoneLimit_17 : decode cX11_setZoneLimit 17 = .ok (.aload_n 0, 1) := by decide +kernel
theorem dX11_setZoneLimit_18 : decode cX11_setZoneLimit 18 = .ok (.getfield 9, 3) := by decide +kernel
theorem dX11_setZoneLimit_21 : decode cX11_setZoneLimit 21 = .ok (.sipush 229, 3) := by decide +kernel
theorem dX11_setZoneLimit_24 : decode cX11_setZoneLimit 24 = .ok (.iaload, 1) := by decide +kernel
theorem dX11_setZoneLimit_25 : decode cX11_setZoneLimit 25 = .ok (.istore_n 2, 1) := by decide +kernel
theorem dX11_setZoneLimit_26 : decode cX11_setZoneLimit 26 = .ok (.aload_n 0, 1) := by decide +kernel
theorem dX11_setZoneLimit_27 : decode cX11_setZoneLimit 27 = .ok (.getfield 9, 3) := by decide +kernel
theorem dX11_setZoneLimit_30 : decode cX11_setZoneLimit 30 = .ok (.sipush 229, 3) := by decide +kernel
theorem dX11_setZoneLimit_33 : decode cX11_setZoneLimit 33 = .ok (.iload_n 1, 1) := by decide +kernel
theorem dX11_setZoneLimit_34 : decode cX11_setZoneLimit 34 = .ok (.iastore, 1) := by decide +kernel
theorem dX11_setZoneLimit_35 : decode cX11_setZoneLimit 35 = .ok (.iload_n 2, 1) := by decide +kernel
theorem dX11_setZoneLimit_36 : decode cX11_setZoneLimit 36 = .ok (.ireturn, 1) := by decide +kernel
theorem dX11_append_0 : decode cX11_append 0 = .ok (.iload_n 1, 1) := by decide +kernel
theorem dX11_append_1 : decode cX11_append 1 = .ok (.iconst 0, 1) := by decide +kernel
theorem dX11_append_2 : decode cX11_append 2 = .ok (.bipush 127, 2) := by decide +kernel
theorem dX11_append_4 : decode cX11_append 4 = .ok (.invokestatic 44, 3) := by decide +kernel
theorem dX11_append_7 : decode cX11_append 7 = .ok (.ifCond .eq 13, 3) := by decide +kernel
theorem dX11_append_10 : decode cX11_append 10 = .ok (.iload_n 2, 1) := by decide +kernel
theorem dX11_append_11 : decode cX11_append 11 = .ok (.iconst 1, 1) := by decide +kernel
theorem dX11_append_12 : decode cX11_append 12 = .ok (.bipush 40, 2) := by decide +kernel
theorem dX11_append_14 : decode cX11_append 14 = .ok (.invokestatic 44, 3) := by decide +kernel
theorem dX11_append_17 : decode cX11_append 17 = .ok (.ifCond .ne 6, 3) := by decide +kernel
theorem dX11_append_20 : decode cX11_append 20 = .ok (.bipush (-2), 2) := by decide +kernel
theorem dX11_append_22 : decode cX11_append 22 = .ok (.ireturn, 1) := by decide +kernel
theorem dX11_append_23 : decode cX11_append 23 = .ok (.aload_n 0, 1) := by decide +kernel
theorem dX11_append_24 : decode cX11_append 24 = .ok (.getfield 74, 3) := by decide +kernel
theorem dX11_append_27 : decode cX11_append 27 = .ok (.iload_n 2, 1) := by decide +kernel
theorem dX11_append_28 : decode cX11_append 28 = .ok (.iadd, 1) := by decide +kernel
theorem dX11_append_29 : decode cX11_append 29 = .ok (.bipush 40, 2) := by decide +kernel
theorem dX11_append_31 : decode cX11_append 31 = .ok (.if_icmp .le 6, 3) := by decide +kernel
theorem dX11_append_34 : decode cX11_append 34 = .ok (.bipush (-3), 2) := by decide +kernel
theorem dX11_append_36 : decode cX11_append 36 = .ok (.ireturn, 1) := by decide +kernel
theorem dX11_append_37 : decode cX11_append 37 = .ok (.iconst 0, 1) := by decide +kernel
theorem dX11_append_38 : decode cX11_append 38 = .ok (.istore_n 3, 1) := by decide +kernel
theorem dX11_append_39 : decode cX11_append 39 = .ok (.iload_n 3, 1) := by decide +kernel
theorem dX11_append_40 : decode cX11_append 40 = .ok (.iload_n 2, 1) := by decide +kernel
theorem dX11_append_41 : decode cX11_append 41 = .ok (.if_icmp .ge 29, 3) := by decide +kernel
theorem dX11_append_44 : decode cX11_append 44 = .ok (.aload_n 0, 1) := by decide +kernel
theorem dX11_append_45 : decode cX11_append 45 = .ok (.getfield 22, 3) := by decide +kernel
theorem dX11_append_48 : decode cX11_append 48 = .ok (.aload_n 0, 1) := by decide +kernel
theorem dX11_append_49 : decode cX11_append 49 = .ok (.getfield 74, 3) := by decide +kernel
theorem dX11_append_52 : decode cX11_append 52 = .ok (.iload_n 1, 1) := by decide +kernel
theorem dX11_append_53 : decode cX11_append 53 = .ok (.iastore, 1) := by decide +kernel
theorem dX11_append_54 : decode cX11_append 54 = .ok (.aload_n 0, 1) := by decide +kernel
theorem dX11_append_55 : decode cX11_append 55 = .ok (.dup, 1) := by decide +kernel
theorem dX11_append_56 : decode cX11_append 56 = .ok (.getfield 74, 3) := by decide +kernel
theorem dX11_append_59 : decode cX11_append 59 = .ok (.iconst 1, 1) := by decide +kernel
theorem dX11_append_60 : decode cX11_append 60 = .ok (.iadd, 1) := by decide +kernel
theorem dX11_append_61 : decode cX11_append 61 = .ok (.putfield 74, 3) := by decide +kernel
theorem dX11_append_64 : decode cX11_append 64 = .ok (.iinc 3 1, 3) := by decide +kernel
theorem dX11_append_67 : decode cX11_append 67 = .ok (.goto (-28), 3) := by decide +kernel
theorem dX11_append_70 : decode cX11_append 70 = .ok (.aload_n 0, 1) := by decide +kernel
theorem dX11_append_71 : decode cX11_append 71 = .ok (.getfield 74, 3) := by decide +kernel
theorem dX11_append_74 : decode cX11_append 74 = .ok (.ireturn, 1) := by decide +kernel
theorem dX11_isOfPath_0 : decode cX11_isOfPath 0 = .ok (.iload_n 0, 1) := by decide +kernel
theorem dX11_isOfPath_1 : decode cX11_isOfPath 1 = .ok (.bipush 47, 2) := by decide +kernel
theorem dX11_isOfPath_3 : decode cX11_isOfPath 3 = .ok (.if_icmp .eq 14, 3) := by decide +kernel
theorem dX11_isOfPath_6 : decode cX11_isOfPath 6 = .ok (.iload_n 0, 1) := by decide +kernel
theorem dX11_isOfPath_7 : decode cX11_isOfPath 7 = .ok (.bipush 97, 2) := by decide +kernel
theorem dX11_isOfPath_9 : decode cX11_isOfPath 9 = .ok (.bipush 122, 2) := by decide +kernel
theorem dX11_isOfPath_11 : decode cX11_isOfPath 11 = .ok (.invokestatic 44, 3) := by decide +kernel
theorem dX11_isOfPath_14 : decode cX11_isOfPath 14 = .ok (.ifCond .eq 7, 3) := by decide +kernel
theorem dX11_isOfPath_17 : decode cX11_isOfPath 17 = .ok (.iconst 1, 1) := by decide +kernel
theorem dX11_isOfPath_18 : decode cX11_isOfPath 18 = .ok (.goto 4, 3) := by decide +kernel
theorem dX11_isOfPath_21 : decode cX11_isOfPath 21 = .ok (.iconst 0, 1) := by decide +kernel
theorem dX11_isOfPath_22 : decode cX11_isOfPath 22 = .ok (.ireturn, 1) := by decide +kernel
theorem dX11_isPath_0 : decode cX11_isPath 0 = .ok (.aload_n 0, 1) := by decide +kernel
theorem dX11_isPath_1 : decode cX11_isPath 1 = .ok (.getfield 74, 3) := by decide +kernel
theorem dX11_isPath_4 : decode cX11_isPath 4 = .ok (.ifCond .eq 14, 3) := by decide +kernel
theorem dX11_isPath_7 : decode cX11_isPath 7 = .ok (.aload_n 0, 1) := by decide +kernel
theorem dX11_isPath_8 : decode cX11_isPath 8 = .ok (.getfield 22, 3) := by decide +kernel
theorem dX11_isPath_11 : decode cX11_isPath 11 = .ok (.iconst 0, 1) := by decide +kernel
theorem dX11_isPath_12 : decode cX11_isPath 12 = .ok (.iaload, 1) := by decide +kernel
theorem dX11_isPath_13 : decode cX11_isPath 13 = .ok (.bipush 47, 2) := by decide +kernel
theorem dX11_isPath_15 : decode cX11_isPath 15 = .ok (.if_icmp .eq 5, 3) := by decide +kernel
theorem dX11_isPath_18 : decode cX11_isPath 18 = .ok (.iconst 0, 1) := by decide +kernel
theorem dX11_isPath_19 : decode cX11_isPath 19 = .ok (.ireturn, 1) := by decide +kernel
theorem dX11_isPath_20 : decode cX11_isPath 20 = .ok (.iconst 0, 1) := by decide +kernel
theorem dX11_isPath_21 : decode cX11_isPath 21 = .ok (.istore_n 1, 1) := by decide +kernel
theorem dX11_isPath_22 : decode cX11_isPath 22 = .ok (.iload_n 1, 1) := by decide +kernel
theorem dX11_isPath_23 : decode cX11_isPath 23 = .ok (.aload_n 0, 1) := by decide +kernel
theorem dX11_isPath_24 : decode cX11_isPath 24 = .ok (.getfield 74, 3) := by decide +kernel
theorem dX11_isPath_27 : decode cX11_isPath 27 = .ok (.if_icmp .ge 23, 3) := by decide +kernel
theorem dX11_isPath_30 : decode cX11_isPath 30 = .ok (.aload_n 0, 1) := by decide +kernel
theorem dX11_isPath_31 : decode cX11_isPath 31 = .ok (.getfield 22, 3) := by decide +kernel
theorem dX11_isPath_34 : decode cX11_isPath 34 = .ok (.iload_n 1, 1) := by decide +kernel
theorem dX11_isPath_35 : decode cX11_isPath 35 = .ok (.iaload, 1) := by decide +kernel
theorem dX11_isPath_36 : decode cX11_isPath 36 = .ok (.invokestatic 77, 3) := by decide +kernel
theorem dX11_isPath_39 : decode cX11_isPath 39 = .ok (.ifCond .ne 5, 3) := by decide +kernel
theorem dX11_isPath_42 : decode cX11_isPath 42 = .ok (.iconst 0, 1) := by decide +kernel
theorem dX11_isPath_43 : decode cX11_isPath 43 = .ok (.ireturn, 1) := by decide +kernel
theorem dX11_isPath_44 : decode cX11_isPath 44 = .ok (.iinc 1 1, 3) := by decide +kernel
theorem dX11_isPath_47 : decode cX11_isPath 47 = .ok (.goto (-25), 3) := by decide +kernel
theorem dX11_isPath_50 : decode cX11_isPath 50 = .ok (.iconst 1, 1) := by decide +kernel
theorem dX11_isPath_51 : decode cX11_isPath 51 = .ok (.ireturn, 1) := by decide +kernel
theorem dX11_here_0 : decode cX11_here 0 = .ok (.aload_n 0, 1) := by decide +kernel
theorem dX11_here_1 : decode cX11_here 1 = .ok (.getfield 80, 3) := by decide +kernel
theorem dX11_here_4 : decode cX11_here 4 = .ok (.aload_n 0, 1) := by decide +kernel
theorem dX11_here_5 : decode cX11_here 5 = .ok (.getfield 74, 3) := by decide +kernel
theorem dX11_here_8 : decode cX11_here 8 = .ok (.if_icmp .ge 15, 3) := by decide +kernel
theorem dX11_here_11 : decode cX11_here 11 = .ok (.aload_n 0, 1) := by decide +kernel
theorem dX11_here_12 : decode cX11_here 12 = .ok (.getfield 22, 3) := by decide +kernel
theorem dX11_here_15 : decode cX11_here 15 = .ok (.aload_n 0, 1) := by decide +kernel
theorem dX11_here_16 : decode cX11_here 16 = .ok (.getfield 80, 3) := by decide +kernel
theorem dX11_here_19 : decode cX11_here 19 = .ok (.iaload, 1) := by decide +kernel
theorem dX11_here_20 : decode cX11_here 20 = .ok (.goto 4, 3) := by decide +kernel
theorem dX11_here_23 : decode cX11_here 23 = .ok (.iconst (-1), 1) := by decide +kernel
theorem dX11_here_24 : decode cX11_here 24 = .ok (.ireturn, 1) := by decide +kernel
theorem dX11_sign_0 : decode cX11_sign 0 = .ok (.aload_n 0, 1) := by decide +kernel
theorem dX11_sign_1 : decode cX11_sign 1 = .ok (.dup, 1) := by decide +kernel
theorem dX11_sign_2 : decode cX11_sign 2 = .ok (.getfield 83, 3) := by decide +kernel
theorem dX11_sign_5 : decode cX11_sign 5 = .ok (.aload_n 0, 1) := by decide +kernel
theorem dX11_sign_6 : decode cX11_sign 6 = .ok (.invokevirtual 86, 3) := by decide +kernel
theorem dX11_sign_9 : decode cX11_sign 9 = .ok (.iload_n 1, 1) := by decide +kernel
theorem dX11_sign_10 : decode cX11_sign 10 = .ok (.if_icmp .eq 7, 3) := by decide +kernel
theorem dX11_sign_13 : decode cX11_sign 13 = .ok (.iconst 1, 1) := by decide +kernel
theorem dX11_sign_14 : decode cX11_sign 14 = .ok (.goto 4, 3) := by decide +kernel
theorem dX11_sign_17 : decode cX11_sign 17 = .ok (.iconst 0, 1) := by decide +kernel
theorem dX11_sign_18 : decode cX11_sign 18 = .ok (.ior, 1) := by decide +kernel
theorem dX11_sign_19 : decode cX11_sign 19 = .ok (.putfield 83, 3) := by decide +kernel
theorem dX11_sign_22 : decode cX11_sign 22 = .ok (.aload_n 0, 1) := by decide +kernel
theorem dX11_sign_23 : decode cX11_sign 23 = .ok (.dup, 1) := by decide +kernel
theorem dX11_sign_24 : decode cX11_sign 24 = .ok (.getfield 80, 3) := by decide +kernel
theorem dX11_sign_27 : decode cX11_sign 27 = .ok (.aload_n 0, 1) := by decide +kernel
theorem dX11_sign_28 : decode cX11_sign 28 = .ok (.getfield 83, 3) := by decide +kernel
theorem dX11_sign_31 : decode cX11_sign 31 = .ok (.ifCond .eq 7, 3) := by decide +kernel
theorem dX11_sign_34 : decode cX11_sign 34 = .ok (.iconst 0, 1) := by decide +kernel
theorem dX11_sign_35 : decode cX11_sign 35 = .ok (.goto 4, 3) := by decide +kernel
theorem dX11_sign_38 : decode cX11_sign 38 = .ok (.iconst 1, 1) := by decide +kernel
theorem dX11_sign_39 : decode cX11_sign 39 = .ok (.iadd, 1) := by decide +kernel
theorem dX11_sign_40 : decode cX11_sign 40 = .ok (.putfield 80, 3) := by decide +kernel
theorem dX11_sign_43 : decode cX11_sign 43 = .ok (.return_, 1) := by decide +kernel
theorem dX11_digit_0 : decode cX11_digit 0 = .ok (.aload_n 0, 1) := by decide +kernel
theorem dX11_digit_1 : decode cX11_digit 1 = .ok (.invokevirtual 86, 3) := by decide +kernel
theorem dX11_digit_4 : decode cX11_digit 4 = .ok (.bipush 48, 2) := by decide +kernel
theorem dX11_digit_6 : decode cX11_digit 6 = .ok (.isub, 1) := by decide +kernel
theorem dX11_digit_7 : decode cX11_digit 7 = .ok (.istore_n 3, 1) := by decide +kernel
theorem dX11_digit_8 : decode cX11_digit 8 = .ok (.aload_n 0, 1) := by decide +kernel
theorem dX11_digit_9 : decode cX11_digit 9 = .ok (.dup, 1) := by decide +kernel
theorem dX11_digit_10 : decode cX11_digit 10 = .ok (.getfield 83, 3) := by decide +kernel
theorem dX11_digit_13 : decode cX11_digit 13 = .ok (.iload_n 3, 1) := by decide +kernel
theorem dX11_digit_14 : decode cX11_digit 14 = .ok (.iload_n 1, 1) := by decide +kernel
theorem dX11_digit_15 : decode cX11_digit 15 = .ok (.iload_n 2, 1) := by decide +kernel
theorem dX11_digit_16 : decode cX11_digit 16 = .ok (.invokestatic 44, 3) := by decide +kernel
theorem dX11_digit_19 : decode cX11_digit 19 = .ok (.ifCond .ne 7, 3) := by decide +kernel
theorem dX11_digit_22 : decode cX11_digit 22 = .ok (.iconst 1, 1) := by decide +kernel
theorem dX11_digit_23 : decode cX11_digit 23 = .ok (.goto 4, 3) := by decide +kernel
theorem dX11_digit_26 : decode cX11_digit 26 = .ok (.iconst 0, 1) := by decide +kernel
theorem dX11_digit_27 : decode cX11_digit 27 = .ok (.ior, 1) := by decide +kernel
theorem dX11_digit_28 : decode cX11_digit 28 = .ok (.putfield 83, 3) := by decide +kernel
theorem dX11_digit_31 : decode cX11_digit 31 = .ok (.aload_n 0, 1) := by decide +kernel
theorem dX11_digit_32 : decode cX11_digit 32 = .ok (.dup, 1) := by decide +kernel
theorem dX11_digit_33 : decode cX11_digit 33 = .ok (.getfield 80, 3) := by decide +kernel
theorem dX11_digit_36 : decode cX11_digit 36 = .ok (.aload_n 0, 1) := by decide +kernel
theorem dX11_digit_37 : decode cX11_digit 37 = .ok (.getfield 83, 3) := by decide +kernel
theorem dX11_digit_40 : decode cX11_digit 40 = .ok (.ifCond .eq 7, 3) := by decide +kernel
theorem dX11_digit_43 : decode cX11_digit 43 = .ok (.iconst 0, 1) := by decide +kernel
theorem dX11_digit_44 : decode cX11_digit 44 = .ok (.goto 4, 3) := by decide +kernel
theorem dX11_digit_47 : decode cX11_digit 47 = .ok (.iconst 1, 1) := by decide +kernel
theorem dX11_digit_48 : decode cX11_digit 48 = .ok (.iadd, 1) := by decide +kernel
theorem dX11_digit_49 : decode cX11_digit 49 = .ok (.putfield 80, 3) := by decide +kernel
theorem dX11_digit_52 : decode cX11_digit 52 = .ok (.aload_n 0, 1) := by decide +kernel
theorem dX11_digit_53 : decode cX11_digit 53 = .ok (.getfield 83, 3) := by decide +kernel
theorem dX11_digit_56 : decode cX11_digit 56 = .ok (.ifCond .eq 7, 3) := by decide +kernel
theorem dX11_digit_59 : decode cX11_digit 59 = .ok (.iconst 0, 1) := by decide +kernel
theorem dX11_digit_60 : decode cX11_digit 60 = .ok (.goto 4, 3) := by decide +kernel
theorem dX11_digit_63 : decode cX11_digit 63 = .ok (.iload_n 3, 1) := by decide +kernel
theorem dX11_digit_64 : decode cX11_digit 64 = .ok (.ireturn, 1) := by decide +kernel
theorem dX11_target_0 : decode cX11_target 0 = .ok (.aload_n 0, 1) := by decide +kernel
theorem dX11_target_1 : decode cX11_target 1 = .ok (.getfield 34, 3) := by decide +kernel
theorem dX11_target_4 : decode cX11_target 4 = .ok (.bipush 43, 2) := by decide +kernel
theorem dX11_target_6 : decode cX11_target 6 = .ok (.iaload, 1) := by decide +kernel
theorem dX11_target_7 : decode cX11_target 7 = .ok (.istore_n 1, 1) := by decide +kernel
theorem dX11_target_8 : decode cX11_target 8 = .ok (.aload_n 0, 1) := by decide +kernel
theorem dX11_target_9 : decode cX11_target 9 = .ok (.invokevirtual 86, 3) := by decide +kernel
theorem dX11_target_12 : decode cX11_target 12 = .ok (.bipush 48, 2) := by decide +kernel
theorem dX11_target_14 : decode cX11_target 14 = .ok (.isub, 1) := by decide +kernel
theorem dX11_target_15 : decode cX11_target 15 = .ok (.istore_n 2, 1) := by decide +kernel
theorem dX11_target_16 : decode cX11_target 16 = .ok (.aload_n 0, 1) := by decide +kernel
theorem dX11_target_17 : decode cX11_target 17 = .ok (.dup, 1) := by decide +kernel
theorem dX11_target_18 : decode cX11_target 18 = .ok (.getfield 83, 3) := by decide +kernel
theorem dX11_target_21 : decode cX11_target 21 = .ok (.iload_n 2, 1) := by decide +kernel
theorem dX11_target_22 : decode cX11_target 22 = .ok (.iconst 0, 1) := by decide +kernel
theorem dX11_target_23 : decode cX11_target 23 = .ok (.iconst 3, 1) := by decide +kernel
theorem dX11_target_24 : decode cX11_target 24 = .ok (.invokestatic 44, 3) := by decide +kernel
theorem dX11_target_27 : decode cX11_target 27 = .ok (.ifCond .ne 7, 3) := by decide +kernel
theorem dX11_target_30 : decode cX11_target 30 = .ok (.iconst 1, 1) := by decide +kernel
theorem dX11_target_31 : decode cX11_target 31 = .ok (.goto 4, 3) := by decide +kernel
theorem dX11_target_34 : decode cX11_target 34 = .ok (.iconst 0, 1) := by decide +kernel
theorem dX11_target_35 : decode cX11_target 35 = .ok (.ior, 1) := by decide +kernel
theorem dX11_target_36 : decode cX11_target 36 = .ok (.putfield 83, 3) := by decide +kernel
theorem dX11_target_39 : decode cX11_target 39 = .ok (.iconst 0, 1) := by decide +kernel
theorem dX11_target_40 : decode cX11_target 40 = .ok (.istore_n 3, 1) := by decide +kernel
theorem dX11_target_41 : decode cX11_target 41 = .ok (.iload_n 3, 1) := by decide +kernel
theorem dX11_target_42 : decode cX11_target 42 = .ok (.iload_n 1, 1) := by decide +kernel
theorem dX11_target_43 : decode cX11_target 43 = .ok (.if_icmp .ge 38, 3) := by decide +kernel
theorem dX11_target_46 : decode cX11_target 46 = .ok (.aload_n 0, 1) := by decide +kernel
theorem dX11_target_47 : decode cX11_target 47 = .ok (.dup, 1) := by decide +kernel
theorem dX11_target_48 : decode cX11_target 48 = .ok (.getfield 83, 3) := by decide +kernel
theorem dX11_target_51 : decode cX11_target 51 = .ok (.aload_n 0, 1) := by decide +kernel
theorem dX11_target_52 : decode cX11_target 52 = .ok (.getfield 34, 3) := by decide +kernel
theorem dX11_target_55 : decode cX11_target 55 = .ok (.bipush 44, 2) := by decide +kernel
theorem dX11_target_57 : decode cX11_target 57 = .ok (.iconst 4, 1) := by decide +kernel
theorem dX11_target_58 : decode cX11_target 58 = .ok (.iload_n 3, 1) := by decide +kernel
theorem dX11_target_59 : decode cX11_target 59 = .ok (.imul, 1) := by decide +kernel
theorem dX11_target_60 : decode cX11_target 60 = .ok (.iadd, 1) := by decide +kernel
theorem dX11_target_61 : decode cX11_target 61 = .ok (.iaload, 1) := by decide +kernel
theorem dX11_target_62 : decode cX11_target 62 = .ok (.iload_n 2, 1) := by decide +kernel
theorem dX11_target_63 : decode cX11_target 63 = .ok (.if_icmp .ne 7, 3) := by decide +kernel
theorem dX11_target_66 : decode cX11_target 66 = .ok (.iconst 1, 1) := by decide +kernel
theorem dX11_target_67 : decode cX11_target 67 = .ok (.goto 4, 3) := by decide +kernel
theorem dX11_target_70 : decode cX11_target 70 = .ok (.iconst 0, 1) := by decide +kernel
theorem dX11_target_71 : decode cX11_target 71 = .ok (.ior, 1) := by decide +kernel
theorem dX11_target_72 : decode cX11_target 72 = .ok (.putfield 83, 3) := by decide +kernel
theorem dX11_target_75 : decode cX11_target 75 = .ok (.iinc 3 1, 3) := by decide +kernel
theorem dX11_target_78 : decode cX11_target 78 = .ok (.goto (-37), 3) := by decide +kernel
theorem dX11_target_81 : decode cX11_target 81 = .ok (.aload_n 0, 1) := by decide +kernel
theorem dX11_target_82 : decode cX11_target 82 = .ok (.getfield 83, 3) := by decide +kernel
theorem dX11_target_85 : decode cX11_target 85 = .ok (.ifCond .eq 4, 3) := by decide +kernel
theorem dX11_target_88 : decode cX11_target 88 = .ok (.return_, 1) := by decide +kernel
theorem dX11_target_89 : decode cX11_target 89 = .ok (.aload_n 0, 1) := by decide +kernel
theorem dX11_target_90 : decode cX11_target 90 = .ok (.dup, 1) := by decide +kernel
theorem dX11_target_91 : decode cX11_target 91 = .ok (.getfield 80, 3) := by decide +kernel
theorem dX11_target_94 : decode cX11_target 94 = .ok (.iconst 1, 1) := by decide +kernel
theorem dX11_target_95 : decode cX11_target 95 = .ok (.iadd, 1) := by decide +kernel
theorem dX11_target_96 : decode cX11_target 96 = .ok (.putfield 80, 3) := by decide +kernel
theorem dX11_target_99 : decode cX11_target 99 = .ok (.aload_n 0, 1) := by decide +kernel
theorem dX11_target_100 : decode cX11_target 100 = .ok (.getfield 34, 3) := by decide +kernel
theorem dX11_target_103 : decode cX11_target 103 = .ok (.bipush 44, 2) := by decide +kernel
theorem dX11_target_105 : decode cX11_target 105 = .ok (.iconst 4, 1) := by decide +kernel
theorem dX11_target_106 : decode cX11_target 106 = .ok (.iload_n 1, 1) := by decide +kernel
theorem dX11_target_107 : decode cX11_target 107 = .ok (.imul, 1) := by decide +kernel
theorem dX11_target_108 : decode cX11_target 108 = .ok (.iadd, 1) := by decide +kernel
theorem dX11_target_109 : decode cX11_target 109 = .ok (.iload_n 2, 1) := by decide +kernel
theorem dX11_target_110 : decode cX11_target 110 = .ok (.iastore, 1) := by decide +kernel
theorem dX11_target_111 : decode cX11_target 111 = .ok (.aload_n 0, 1) := by decide +kernel
theorem dX11_target_112 : decode cX11_target 112 = .ok (.getfield 34, 3) := by decide +kernel
theorem dX11_target_115 : decode cX11_target 115 = .ok (.bipush 44, 2) := by decide +kernel
theorem dX11_target_117 : decode cX11_target 117 = .ok (.iconst 4, 1) := by decide +kernel
theorem dX11_target_118 : decode cX11_target 118 = .ok (.iload_n 1, 1) := by decide +kernel
theorem dX11_target_119 : decode cX11_target 119 = .ok (.imul, 1) := by decide +kernel
theorem dX11_target_120 : decode cX11_target 120 = .ok (.iadd, 1) := by decide +kernel
theorem dX11_target_121 : decode cX11_target 121 = .ok (.iconst 1, 1) := by decide +kernel
theorem dX11_target_122 : decode cX11_target 122 = .ok (.iadd, 1) := by decide +kernel
theorem dX11_target_123 : decode cX11_target 123 = .ok (.iconst 1, 1) := by decide +kernel
theorem dX11_target_124 : decode cX11_target 124 = .ok (.iastore, 1) := by decide +kernel
theorem dX11_target_125 : decode cX11_target 125 = .ok (.aload_n 0, 1) := by decide +kernel
theorem dX11_target_126 : decode cX11_target 126 = .ok (.invokevirtual 86, 3) := by decide +kernel
theorem dX11_target_129 : decode cX11_target 129 = .ok (.bipush 58, 2) := by decide +kernel
theorem dX11_target_131 : decode cX11_target 131 = .ok (.if_icmp .ne 33, 3) := by decide +kernel
theorem dX11_target_134 : decode cX11_target 134 = .ok (.aload_n 0, 1) := by decide +kernel
theorem dX11_target_135 : decode cX11_target 135 = .ok (.dup, 1) := by decide +kernel
theorem dX11_target_136 : decode cX11_target 136 = .ok (.getfield 80, 3) := by decide +kernel
theorem dX11_target_139 : decode cX11_target 139 = .ok (.iconst 1, 1) := by decide +kernel
theorem dX11_target_140 : decode cX11_target 140 = .ok (.iadd, 1) := by decide +kernel
theorem dX11_target_141 : decode cX11_target 141 = .ok (.putfield 80, 3) := by decide +kernel
theorem dX11_target_144 : decode cX11_target 144 = .ok (.aload_n 0, 1) := by decide +kernel
theorem dX11_target_145 : decode cX11_target 145 = .ok (.getfield 34, 3) := by decide +kernel
theorem dX11_target_148 : decode cX11_target 148 = .ok (.bipush 44, 2) := by decide +kernel
theorem dX11_target_150 : decode cX11_target 150 = .ok (.iconst 4, 1) := by decide +kernel
theorem dX11_target_151 : decode cX11_target 151 = .ok (.iload_n 1, 1) := by decide +kernel
theorem dX11_target_152 : decode cX11_target 152 = .ok (.imul, 1) := by decide +kernel
theorem dX11_target_153 : decode cX11_target 153 = .ok (.iadd, 1) := by decide +kernel
theorem dX11_target_154 : decode cX11_target 154 = .ok (.iconst 1, 1) := by decide +kernel
theorem dX11_target_155 : decode cX11_target 155 = .ok (.iadd, 1) := by decide +kernel
theorem dX11_target_156 : decode cX11_target 156 = .ok (.aload_n 0, 1) := by decide +kernel
theorem dX11_target_157 : decode cX11_target 157 = .ok (.iconst 1, 1) := by decide +kernel
theorem dX11_target_158 : decode cX11_target 158 = .ok (.bipush 9, 2) := by decide +kernel
theorem dX11_target_160 : decode cX11_target 160 = .ok (.invokevirtual 90, 3) := by decide +kernel
theorem dX11_target_163 : decode cX11_target 163 = .ok (.iastore, 1) := by decide +kernel
theorem dX11_target_164 : decode cX11_target 164 = .ok (.aload_n 0, 1) := by decide +kernel
theorem dX11_target_165 : decode cX11_target 165 = .ok (.getfield 34, 3) := by decide +kernel
theorem dX11_target_168 : decode cX11_target 168 = .ok (.bipush 43, 2) := by decide +kernel
theorem dX11_target_170 : decode cX11_target 170 = .ok (.dup2, 1) := by decide +kernel
theorem dX11_target_171 : decode cX11_target 171 = .ok (.iaload, 1) := by decide +kernel
theorem dX11_target_172 : decode cX11_target 172 = .ok (.iconst 1, 1) := by decide +kernel
theorem dX11_target_173 : decode cX11_target 173 = .ok (.iadd, 1) := by decide +kernel
theorem dX11_target_174 : decode cX11_target 174 = .ok (.iastore, 1) := by decide +kernel
theorem dX11_target_175 : decode cX11_target 175 = .ok (.return_, 1) := by decide +kernel
theorem dX11_reads_0 : decode cX11_reads 0 = .ok (.iconst 0, 1) := by decide +kernel
theorem dX11_reads_1 : decode cX11_reads 1 = .ok (.istore_n 1, 1) := by decide +kernel
theorem dX11_reads_2 : decode cX11_reads 2 = .ok (.iload_n 1, 1) := by decide +kernel
theorem dX11_reads_3 : decode cX11_reads 3 = .ok (.bipush 58, 2) := by decide +kernel
theorem dX11_reads_5 : decode cX11_reads 5 = .ok (.if_icmp .ge 16, 3) := by decide +kernel
theorem dX11_reads_8 : decode cX11_reads 8 = .ok (.aload_n 0, 1) := by decide +kernel
theorem dX11_reads_9 : decode cX11_reads 9 = .ok (.getfield 34, 3) := by decide +kernel
theorem dX11_reads_12 : decode cX11_reads 12 = .ok (.iload_n 1, 1) := by decide +kernel
theorem dX11_reads_13 : decode cX11_reads 13 = .ok (.iconst 0, 1) := by decide +kernel
theorem dX11_reads_14 : decode cX11_reads 14 = .ok (.iastore, 1) := by decide +kernel
theorem dX11_reads_15 : decode cX11_reads 15 = .ok (.iinc 1 1, 3) := by decide +kernel
theorem dX11_reads_18 : decode cX11_reads 18 = .ok (.goto (-16), 3) := by decide +kernel
theorem dX11_reads_21 : decode cX11_reads 21 = .ok (.aload_n 0, 1) := by decide +kernel
theorem dX11_reads_22 : decode cX11_reads 22 = .ok (.getfield 34, 3) := by decide +kernel
theorem dX11_reads_25 : decode cX11_reads 25 = .ok (.bipush 42, 2) := by decide +kernel
theorem dX11_reads_27 : decode cX11_reads 27 = .ok (.bipush 9, 2) := by decide +kernel
theorem dX11_reads_29 : decode cX11_reads 29 = .ok (.iastore, 1) := by decide +kernel
theorem dX11_reads_30 : decode cX11_reads 30 = .ok (.aload_n 0, 1) := by decide +kernel
theorem dX11_reads_31 : decode cX11_reads 31 = .ok (.getfield 34, 3) := by decide +kernel
theorem dX11_reads_34 : decode cX11_reads 34 = .ok (.bipush 56, 2) := by decide +kernel
theorem dX11_reads_36 : decode cX11_reads 36 = .ok (.iconst 1, 1) := by decide +kernel
theorem dX11_reads_37 : decode cX11_reads 37 = .ok (.iastore, 1) := by decide +kernel
theorem dX11_reads_38 : decode cX11_reads 38 = .ok (.aload_n 0, 1) := by decide +kernel
theorem dX11_reads_39 : decode cX11_reads 39 = .ok (.getfield 34, 3) := by decide +kernel
theorem dX11_reads_42 : decode cX11_reads 42 = .ok (.bipush 57, 2) := by decide +kernel
theorem dX11_reads_44 : decode cX11_reads 44 = .ok (.iconst (-1), 1) := by decide +kernel
theorem dX11_reads_45 : decode cX11_reads 45 = .ok (.iastore, 1) := by decide +kernel
theorem dX11_reads_46 : decode cX11_reads 46 = .ok (.aload_n 0, 1) := by decide +kernel
theorem dX11_reads_47 : decode cX11_reads 47 = .ok (.aload_n 0, 1) := by decide +kernel
theorem dX11_reads_48 : decode cX11_reads 48 = .ok (.invokevirtual 86, 3) := by decide +kernel
theorem dX11_reads_51 : decode cX11_reads 51 = .ok (.bipush 47, 2) := by decide +kernel
theorem dX11_reads_53 : decode cX11_reads 53 = .ok (.if_icmp .eq 7, 3) := by decide +kernel
theorem dX11_reads_56 : decode cX11_reads 56 = .ok (.iconst 1, 1) := by decide +kernel
theorem dX11_reads_57 : decode cX11_reads 57 = .ok (.goto 4, 3) := by decide +kernel
theorem dX11_reads_60 : decode cX11_reads 60 = .ok (.iconst 0, 1) := by decide +kernel
theorem dX11_reads_61 : decode cX11_reads 61 = .ok (.putfield 83, 3) := by decide +kernel
theorem dX11_reads_64 : decode cX11_reads 64 = .ok (.aload_n 0, 1) := by decide +kernel
theorem dX11_reads_65 : decode cX11_reads 65 = .ok (.getfield 83, 3) := by decide +kernel
theorem dX11_reads_68 : decode cX11_reads 68 = .ok (.ifCond .ne 64, 3) := by decide +kernel
theorem dX11_reads_71 : decode cX11_reads 71 = .ok (.aload_n 0, 1) := by decide +kernel
theorem dX11_reads_72 : decode cX11_reads 72 = .ok (.getfield 80, 3) := by decide +kernel
theorem dX11_reads_75 : decode cX11_reads 75 = .ok (.aload_n 0, 1) := by decide +kernel
theorem dX11_reads_76 : decode cX11_reads 76 = .ok (.getfield 74, 3) := by decide +kernel
theorem dX11_reads_79 : decode cX11_reads 79 = .ok (.if_icmp .ge 53, 3) := by decide +kernel
theorem dX11_reads_82 : decode cX11_reads 82 = .ok (.aload_n 0, 1) := by decide +kernel
theorem dX11_reads_83 : decode cX11_reads 83 = .ok (.invokevirtual 86, 3) := by decide +kernel
theorem dX11_reads_86 : decode cX11_reads 86 = .ok (.invokestatic 77, 3) := by decide +kernel
theorem dX11_reads_89 : decode cX11_reads 89 = .ok (.ifCond .eq 43, 3) := by decide +kernel
theorem dX11_reads_92 : decode cX11_reads 92 = .ok (.aload_n 0, 1) := by decide +kernel
theorem dX11_reads_93 : decode cX11_reads 93 = .ok (.getfield 34, 3) := by decide +kernel
theorem dX11_reads_96 : decode cX11_reads 96 = .ok (.iconst 1, 1) := by decide +kernel
theorem dX11_reads_97 : decode cX11_reads 97 = .ok (.aload_n 0, 1) := by decide +kernel
theorem dX11_reads_98 : decode cX11_reads 98 = .ok (.getfield 34, 3) := by decide +kernel
theorem dX11_reads_101 : decode cX11_reads 101 = .ok (.iconst 0, 1) := by decide +kernel
theorem dX11_reads_102 : decode cX11_reads 102 = .ok (.iaload, 1) := by decide +kernel
theorem dX11_reads_103 : decode cX11_reads 103 = .ok (.iadd, 1) := by decide +kernel
theorem dX11_reads_104 : decode cX11_reads 104 = .ok (.aload_n 0, 1) := by decide +kernel
theorem dX11_reads_105 : decode cX11_reads 105 = .ok (.invokevirtual 86, 3) := by decide +kernel
theorem dX11_reads_108 : decode cX11_reads 108 = .ok (.iastore, 1) := by decide +kernel
theorem dX11_reads_109 : decode cX11_reads 109 = .ok (.aload_n 0, 1) := by decide +kernel
theorem dX11_reads_110 : decode cX11_reads 110 = .ok (.getfield 34, 3) := by decide +kernel
theorem dX11_reads_113 : decode cX11_reads 113 = .ok (.iconst 0, 1) := by decide +kernel
theorem dX11_reads_114 : decode cX11_reads 114 = .ok (.dup2, 1) := by decide +kernel
theorem dX11_reads_115 : decode cX11_reads 115 = .ok (.iaload, 1) := by decide +kernel
theorem dX11_reads_116 : decode cX11_reads 116 = .ok (.iconst 1, 1) := by decide +kernel
theorem dX11_reads_117 : decode cX11_reads 117 = .ok (.iadd, 1) := by decide +kernel
theorem dX11_reads_118 : decode cX11_reads 118 = .ok (.iastore, 1) := by decide +kernel
theorem dX11_reads_119 : decode cX11_reads 119 = .ok (.aload_n 0, 1) := by decide +kernel
theorem dX11_reads_120 : decode cX11_reads 120 = .ok (.dup, 1) := by decide +kernel
theorem dX11_reads_121 : decode cX11_reads 121 = .ok (.getfield 80, 3) := by decide +kernel
theorem dX11_reads_124 : decode cX11_reads 124 = .ok (.iconst 1, 1) := by decide +kernel
theorem dX11_reads_125 : decode cX11_reads 125 = .ok (.iadd, 1) := by decide +kernel
theorem dX11_reads_126 : decode cX11_reads 126 = .ok (.putfield 80, 3) := by decide +kernel
theorem dX11_reads_129 : decode cX11_reads 129 = .ok (.goto (-65), 3) := by decide +kernel
theorem dX11_reads_132 : decode cX11_reads 132 = .ok (.aload_n 0, 1) := by decide +kernel
theorem dX11_reads_133 : decode cX11_reads 133 = .ok (.getfield 83, 3) := by decide +kernel
theorem dX11_reads_136 : decode cX11_reads 136 = .ok (.ifCond .ne 89, 3) := by decide +kernel
theorem dX11_reads_139 : decode cX11_reads 139 = .ok (.aload_n 0, 1) := by decide +kernel
theorem dX11_reads_140 : decode cX11_reads 140 = .ok (.invokevirtual 86, 3) := by decide +kernel
theorem dX11_reads_143 : decode cX11_reads 143 = .ok (.bipush 91, 2) := by decide +kernel
theorem dX11_reads_145 : decode cX11_reads 145 = .ok (.if_icmp .ne 80, 3) := by decide +kernel
theorem dX11_reads_148 : decode cX11_reads 148 = .ok (.aload_n 0, 1) := by decide +kernel
theorem dX11_reads_149 : decode cX11_reads 149 = .ok (.dup, 1) := by decide +kernel
theorem dX11_reads_150 : decode cX11_reads 150 = .ok (.getfield 80, 3) := by decide +kernel
theorem dX11_reads_153 : decode cX11_reads 153 = .ok (.iconst 1, 1) := by decide +kernel
theorem dX11_reads_154 : decode cX11_reads 154 = .ok (.iadd, 1) := by decide +kernel
theorem dX11_reads_155 : decode cX11_reads 155 = .ok (.putfield 80, 3) := by decide +kernel
theorem dX11_reads_158 : decode cX11_reads 158 = .ok (.aload_n 0, 1) := by decide +kernel
theorem dX11_reads_159 : decode cX11_reads 159 = .ok (.getfield 34, 3) := by decide +kernel
theorem dX11_reads_162 : decode cX11_reads 162 = .ok (.bipush 41, 2) := by decide +kernel
theorem dX11_reads_164 : decode cX11_reads 164 = .ok (.aload_n 0, 1) := by decide +kernel
theorem dX11_reads_165 : decode cX11_reads 165 = .ok (.iconst 0, 1) := by decide +kernel
theorem dX11_reads_166 : decode cX11_reads 166 = .ok (.bipush 9, 2) := by decide +kernel
theorem dX11_reads_168 : decode cX11_reads 168 = .ok (.invokevirtual 90, 3) := by decide +kernel
theorem dX11_reads_171 : decode cX11_reads 171 = .ok (.iastore, 1) := by decide +kernel
theorem dX11_reads_172 : decode cX11_reads 172 = .ok (.aload_n 0, 1) := by decide +kernel
theorem dX11_reads_173 : decode cX11_reads 173 = .ok (.getfield 83, 3) := by decide +kernel
theorem dX11_reads_176 : decode cX11_reads 176 = .ok (.ifCond .ne 9, 3) := by decide +kernel
theorem dX11_reads_179 : decode cX11_reads 179 = .ok (.aload_n 0, 1) := by decide +kernel
theorem dX11_reads_180 : decode cX11_reads 180 = .ok (.bipush 45, 2) := by decide +kernel
theorem dX11_reads_182 : decode cX11_reads 182 = .ok (.invokevirtual 93, 3) := by decide +kernel
theorem dX11_reads_185 : decode cX11_reads 185 = .ok (.aload_n 0, 1) := by decide +kernel
theorem dX11_reads_186 : decode cX11_reads 186 = .ok (.getfield 83, 3) := by decide +kernel
theorem dX11_reads_189 : decode cX11_reads 189 = .ok (.ifCond .ne 23, 3) := by decide +kernel
theorem dX11_reads_192 : decode cX11_reads 192 = .ok (.aload_n 0, 1) := by decide +kernel
theorem dX11_reads_193 : decode cX11_reads 193 = .ok (.getfield 34, 3) := by decide +kernel
theorem dX11_reads_196 : decode cX11_reads 196 = .ok (.bipush 42, 2) := by decide +kernel
theorem dX11_reads_198 : decode cX11_reads 198 = .ok (.aload_n 0, 1) := by decide +kernel
theorem dX11_reads_199 : decode cX11_reads 199 = .ok (.aload_n 0, 1) := by decide +kernel
theorem dX11_reads_200 : decode cX11_reads 200 = .ok (.getfield 34, 3) := by decide +kernel
theorem dX11_reads_203 : decode cX11_reads 203 = .ok (.bipush 41, 2) := by decide +kernel
theorem dX11_reads_205 : decode cX11_reads 205 = .ok (.iaload, 1) := by decide +kernel
theorem dX11_reads_206 : decode cX11_reads 206 = .ok (.bipush 9, 2) := by decide +kernel
theorem dX11_reads_208 : decode cX11_reads 208 = .ok (.invokevirtual 90, 3) := by decide +kernel
theorem dX11_reads_211 : decode cX11_reads 211 = .ok (.iastore, 1) := by decide +kernel
theorem dX11_reads_212 : decode cX11_reads 212 = .ok (.aload_n 0, 1) := by decide +kernel
theorem dX11_reads_213 : decode cX11_reads 213 = .ok (.getfield 83, 3) := by decide +kernel
theorem dX11_reads_216 : decode cX11_reads 216 = .ok (.ifCond .ne 9, 3) := by decide +kernel
theorem dX11_reads_219 : decode cX11_reads 219 = .ok (.aload_n 0, 1) := by decide +kernel
theorem dX11_reads_220 : decode cX11_reads 220 = .ok (.bipush 93, 2) := by decide +kernel
theorem dX11_reads_222 : decode cX11_reads 222 = .ok (.invokevirtual 93, 3) := by decide +kernel
theorem dX11_reads_225 : decode cX11_reads 225 = .ok (.aload_n 0, 1) := by decide +kernel
theorem dX11_reads_226 : decode cX11_reads 226 = .ok (.getfield 83, 3) := by decide +kernel
theorem dX11_reads_229 : decode cX11_reads 229 = .ok (.ifCond .ne 9, 3) := by decide +kernel
theorem dX11_reads_232 : decode cX11_reads 232 = .ok (.aload_n 0, 1) := by decide +kernel
theorem dX11_reads_233 : decode cX11_reads 233 = .ok (.bipush 61, 2) := by decide +kernel
theorem dX11_reads_235 : decode cX11_reads 235 = .ok (.invokevirtual 93, 3) := by decide +kernel
theorem dX11_reads_238 : decode cX11_reads 238 = .ok (.aload_n 0, 1) := by decide +kernel
theorem dX11_reads_239 : decode cX11_reads 239 = .ok (.getfield 83, 3) := by decide +kernel
theorem dX11_reads_242 : decode cX11_reads 242 = .ok (.ifCond .ne 7, 3) := by decide +kernel
theorem dX11_reads_245 : decode cX11_reads 245 = .ok (.iconst 1, 1) := by decide +kernel
theorem dX11_reads_246 : decode cX11_reads 246 = .ok (.goto 4, 3) := by decide +kernel
theorem dX11_reads_249 : decode cX11_reads 249 = .ok (.iconst 0, 1) := by decide +kernel
theorem dX11_reads_250 : decode cX11_reads 250 = .ok (.istore_n 1, 1) := by decide +kernel
theorem dX11_reads_251 : decode cX11_reads 251 = .ok (.iload_n 1, 1) := by decide +kernel
theorem dX11_reads_252 : decode cX11_reads 252 = .ok (.ifCond .eq 61, 3) := by decide +kernel
theorem dX11_reads_255 : decode cX11_reads 255 = .ok (.aload_n 0, 1) := by decide +kernel
theorem dX11_reads_256 : decode cX11_reads 256 = .ok (.invokevirtual 97, 3) := by decide +kernel
theorem dX11_reads_259 : decode cX11_reads 259 = .ok (.aload_n 0, 1) := by decide +kernel
theorem dX11_reads_260 : decode cX11_reads 260 = .ok (.getfield 83, 3) := by decide +kernel
theorem dX11_reads_263 : decode cX11_reads 263 = .ok (.ifCond .ne 27, 3) := by decide +kernel
theorem dX11_reads_266 : decode cX11_reads 266 = .ok (.aload_n 0, 1) := by decide +kernel
theorem dX11_reads_267 : decode cX11_reads 267 = .ok (.invokevirtual 86, 3) := by decide +kernel
theorem dX11_reads_270 : decode cX11_reads 270 = .ok (.bipush 44, 2) := by decide +kernel
theorem dX11_reads_272 : decode cX11_reads 272 = .ok (.if_icmp .ne 18, 3) := by decide +kernel
theorem dX11_reads_275 : decode cX11_reads 275 = .ok (.aload_n 0, 1) := by decide +kernel
theorem dX11_reads_276 : decode cX11_reads 276 = .ok (.getfield 34, 3) := by decide +kernel
theorem dX11_reads_279 : decode cX11_reads 279 = .ok (.bipush 43, 2) := by decide +kernel
theorem dX11_reads_281 : decode cX11_reads 281 = .ok (.iaload, 1) := by decide +kernel
theorem dX11_reads_282 : decode cX11_reads 282 = .ok (.iconst 3, 1) := by decide +kernel
theorem dX11_reads_283 : decode cX11_reads 283 = .ok (.if_icmp .ge 7, 3) := by decide +kernel
theorem dX11_reads_286 : decode cX11_reads 286 = .ok (.iconst 1, 1) := by decide +kernel
theorem dX11_reads_287 : decode cX11_reads 287 = .ok (.goto 4, 3) := by decide +kernel
theorem dX11_reads_290 : decode cX11_reads 290 = .ok (.iconst 0, 1) := by decide +kernel
theorem dX11_reads_291 : decode cX11_reads 291 = .ok (.istore_n 1, 1) := by decide +kernel
theorem dX11_reads_292 : decode cX11_reads 292 = .ok (.aload_n 0, 1) := by decide +kernel
theorem dX11_reads_293 : decode cX11_reads 293 = .ok (.dup, 1) := by decide +kernel
theorem dX11_reads_294 : decode cX11_reads 294 = .ok (.getfield 80, 3) := by decide +kernel
theorem dX11_reads_297 : decode cX11_reads 297 = .ok (.iload_n 1, 1) := by decide +kernel
theorem dX11_reads_298 : decode cX11_reads 298 = .ok (.ifCond .eq 7, 3) := by decide +kernel
theorem dX11_reads_301 : decode cX11_reads 301 = .ok (.iconst 1, 1) := by decide +kernel
theorem dX11_reads_302 : decode cX11_reads 302 = .ok (.goto 4, 3) := by decide +kernel
theorem dX11_reads_305 : decode cX11_reads 305 = .ok (.iconst 0, 1) := by decide +kernel
theorem dX11_reads_306 : decode cX11_reads 306 = .ok (.iadd, 1) := by decide +kernel
theorem dX11_reads_307 : decode cX11_reads 307 = .ok (.putfield 80, 3) := by decide +kernel
theorem dX11_reads_310 : decode cX11_reads 310 = .ok (.goto (-59), 3) := by decide +kernel
theorem dX11_reads_313 : decode cX11_reads 313 = .ok (.aload_n 0, 1) := by decide +kernel
theorem dX11_reads_314 : decode cX11_reads 314 = .ok (.getfield 83, 3) := by decide +kernel
theorem dX11_reads_317 : decode cX11_reads 317 = .ok (.ifCond .ne 35, 3) := by decide +kernel
theorem dX11_reads_320 : decode cX11_reads 320 = .ok (.aload_n 0, 1) := by decide +kernel
theorem dX11_reads_321 : decode cX11_reads 321 = .ok (.invokevirtual 86, 3) := by decide +kernel
theorem dX11_reads_324 : decode cX11_reads 324 = .ok (.bipush 126, 2) := by decide +kernel
theorem dX11_reads_326 : decode cX11_reads 326 = .ok (.if_icmp .ne 26, 3) := by decide +kernel
theorem dX11_reads_329 : decode cX11_reads 329 = .ok (.aload_n 0, 1) := by decide +kernel
theorem dX11_reads_330 : decode cX11_reads 330 = .ok (.dup, 1) := by decide +kernel
theorem dX11_reads_331 : decode cX11_reads 331 = .ok (.getfield 80, 3) := by decide +kernel
theorem dX11_reads_334 : decode cX11_reads 334 = .ok (.iconst 1, 1) := by decide +kernel
theorem dX11_reads_335 : decode cX11_reads 335 = .ok (.iadd, 1) := by decide +kernel
theorem dX11_reads_336 : decode cX11_reads 336 = .ok (.putfield 80, 3) := by decide +kernel
theorem dX11_reads_339 : decode cX11_reads 339 = .ok (.aload_n 0, 1) := by decide +kernel
theorem dX11_reads_340 : decode cX11_reads 340 = .ok (.getfield 34, 3) := by decide +kernel
theorem dX11_reads_343 : decode cX11_reads 343 = .ok (.bipush 57, 2) := by decide +kernel
theorem dX11_reads_345 : decode cX11_reads 345 = .ok (.aload_n 0, 1) := by decide +kernel
theorem dX11_reads_346 : decode cX11_reads 346 = .ok (.iconst 0, 1) := by decide +kernel
theorem dX11_reads_347 : decode cX11_reads 347 = .ok (.iconst 3, 1) := by decide +kernel
theorem dX11_reads_348 : decode cX11_reads 348 = .ok (.invokevirtual 90, 3) := by decide +kernel
theorem dX11_reads_351 : decode cX11_reads 351 = .ok (.iastore, 1) := by decide +kernel
theorem dX11_reads_352 : decode cX11_reads 352 = .ok (.aload_n 0, 1) := by decide +kernel
theorem dX11_reads_353 : decode cX11_reads 353 = .ok (.getfield 83, 3) := by decide +kernel
theorem dX11_reads_356 : decode cX11_reads 356 = .ok (.ifCond .ne 35, 3) := by decide +kernel
theorem dX11_reads_359 : decode cX11_reads 359 = .ok (.aload_n 0, 1) := by decide +kernel
theorem dX11_reads_360 : decode cX11_reads 360 = .ok (.invokevirtual 86, 3) := by decide +kernel
theorem dX11_reads_363 : decode cX11_reads 363 = .ok (.bipush 42, 2) := by decide +kernel
theorem dX11_reads_365 : decode cX11_reads 365 = .ok (.if_icmp .ne 26, 3) := by decide +kernel
theorem dX11_reads_368 : decode cX11_reads 368 = .ok (.aload_n 0, 1) := by decide +kernel
theorem dX11_reads_369 : decode cX11_reads 369 = .ok (.dup, 1) := by decide +kernel
theorem dX11_reads_370 : decode cX11_reads 370 = .ok (.getfield 80, 3) := by decide +kernel
theorem dX11_reads_373 : decode cX11_reads 373 = .ok (.iconst 1, 1) := by decide +kernel
theorem dX11_reads_374 : decode cX11_reads 374 = .ok (.iadd, 1) := by decide +kernel
theorem dX11_reads_375 : decode cX11_reads 375 = .ok (.putfield 80, 3) := by decide +kernel
theorem dX11_reads_378 : decode cX11_reads 378 = .ok (.aload_n 0, 1) := by decide +kernel
theorem dX11_reads_379 : decode cX11_reads 379 = .ok (.getfield 34, 3) := by decide +kernel
theorem dX11_reads_382 : decode cX11_reads 382 = .ok (.bipush 56, 2) := by decide +kernel
theorem dX11_reads_384 : decode cX11_reads 384 = .ok (.aload_n 0, 1) := by decide +kernel
theorem dX11_reads_385 : decode cX11_reads 385 = .ok (.iconst 1, 1) := by decide +kernel
theorem dX11_reads_386 : decode cX11_reads 386 = .ok (.iconst 4, 1) := by decide +kernel
theorem dX11_reads_387 : decode cX11_reads 387 = .ok (.invokevirtual 90, 3) := by decide +kernel
theorem dX11_reads_390 : decode cX11_reads 390 = .ok (.iastore, 1) := by decide +kernel
theorem dX11_reads_391 : decode cX11_reads 391 = .ok (.aload_n 0, 1) := by decide +kernel
theorem dX11_reads_392 : decode cX11_reads 392 = .ok (.dup, 1) := by decide +kernel
theorem dX11_reads_393 : decode cX11_reads 393 = .ok (.getfield 83, 3) := by decide +kernel
theorem dX11_reads_396 : decode cX11_reads 396 = .ok (.aload_n 0, 1) := by decide +kernel
theorem dX11_reads_397 : decode cX11_reads 397 = .ok (.getfield 80, 3) := by decide +kernel
theorem dX11_reads_400 : decode cX11_reads 400 = .ok (.aload_n 0, 1) := by decide +kernel
theorem dX11_reads_401 : decode cX11_reads 401 = .ok (.getfield 74, 3) := by decide +kernel
theorem dX11_reads_404 : decode cX11_reads 404 = .ok (.if_icmp .ge 7, 3) := by decide +kernel
theorem dX11_reads_407 : decode cX11_reads 407 = .ok (.iconst 1, 1) := by decide +kernel
theorem dX11_reads_408 : decode cX11_reads 408 = .ok (.goto 4, 3) := by decide +kernel
theorem dX11_reads_411 : decode cX11_reads 411 = .ok (.iconst 0, 1) := by decide +kernel
theorem dX11_reads_412 : decode cX11_reads 412 = .ok (.ior, 1) := by decide +kernel
theorem dX11_reads_413 : decode cX11_reads 413 = .ok (.putfield 83, 3) := by decide +kernel
theorem dX11_reads_416 : decode cX11_reads 416 = .ok (.return_, 1) := by decide +kernel
theorem dX11_addRule_0 : decode cX11_addRule 0 = .ok (.aload_n 0, 1) := by decide +kernel
theorem dX11_addRule_1 : decode cX11_addRule 1 = .ok (.iconst 0, 1) := by decide +kernel
theorem dX11_addRule_2 : decode cX11_addRule 2 = .ok (.putfield 80, 3) := by decide +kernel
theorem dX11_addRule_5 : decode cX11_addRule 5 = .ok (.aload_n 0, 1) := by decide +kernel
theorem dX11_addRule_6 : decode cX11_addRule 6 = .ok (.invokevirtual 100, 3) := by decide +kernel
theorem dX11_addRule_9 : decode cX11_addRule 9 = .ok (.aload_n 0, 1) := by decide +kernel
theorem dX11_addRule_10 : decode cX11_addRule 10 = .ok (.iconst 0, 1) := by decide +kernel
theorem dX11_addRule_11 : decode cX11_addRule 11 = .ok (.putfield 74, 3) := by decide +kernel
theorem dX11_addRule_14 : decode cX11_addRule 14 = .ok (.aload_n 0, 1) := by decide +kernel
theorem dX11_addRule_15 : decode cX11_addRule 15 = .ok (.getfield 83, 3) := by decide +kernel
theorem dX11_addRule_18 : decode cX11_addRule 18 = .ok (.ifCond .eq 11, 3) := by decide +kernel
theorem dX11_addRule_21 : decode cX11_addRule 21 = .ok (.bipush (-100), 2) := by decide +kernel
theorem dX11_addRule_23 : decode cX11_addRule 23 = .ok (.aload_n 0, 1) := by decide +kernel
theorem dX11_addRule_24 : decode cX11_addRule 24 = .ok (.getfield 80, 3) := by decide +kernel
theorem dX11_addRule_27 : decode cX11_addRule 27 = .ok (.isub, 1) := by decide +kernel
theorem dX11_addRule_28 : decode cX11_addRule 28 = .ok (.ireturn, 1) := by decide +kernel
theorem dX11_addRule_29 : decode cX11_addRule 29 = .ok (.aload_n 0, 1) := by decide +kernel
theorem dX11_addRule_30 : decode cX11_addRule 30 = .ok (.getfield 9, 3) := by decide +kernel
theorem dX11_addRule_33 : decode cX11_addRule 33 = .ok (.sipush 230, 3) := by decide +kernel
theorem dX11_addRule_36 : decode cX11_addRule 36 = .ok (.iaload, 1) := by decide +kernel
theorem dX11_addRule_37 : decode cX11_addRule 37 = .ok (.bipush 8, 2) := by decide +kernel
theorem dX11_addRule_39 : decode cX11_addRule 39 = .ok (.if_icmp .ne 6, 3) := by decide +kernel
theorem dX11_addRule_42 : decode cX11_addRule 42 = .ok (.bipush (-3), 2) := by decide +kernel
theorem dX11_addRule_44 : decode cX11_addRule 44 = .ok (.ireturn, 1) := by decide +kernel
theorem dX11_addRule_45 : decode cX11_addRule 45 = .ok (.aload_n 0, 1) := by decide +kernel
theorem dX11_addRule_46 : decode cX11_addRule 46 = .ok (.invokevirtual 55, 3) := by decide +kernel
theorem dX11_addRule_49 : decode cX11_addRule 49 = .ok (.iconst 0, 1) := by decide +kernel
theorem dX11_addRule_50 : decode cX11_addRule 50 = .ok (.istore_n 1, 1) := by decide +kernel
theorem dX11_addRule_51 : decode cX11_addRule 51 = .ok (.iload_n 1, 1) := by decide +kernel
theorem dX11_addRule_52 : decode cX11_addRule 52 = .ok (.bipush 58, 2) := by decide +kernel
theorem dX11_addRule_54 : decode cX11_addRule 54 = .ok (.if_icmp .ge 37, 3) := by decide +kernel
theorem dX11_addRule_57 : decode cX11_addRule 57 = .ok (.aload_n 0, 1) := by decide +kernel
theorem dX11_addRule_58 : decode cX11_addRule 58 = .ok (.getfield 9, 3) := by decide +kernel
theorem dX11_addRule_61 : decode cX11_addRule 61 = .ok (.sipush 231, 3) := by decide +kernel
theorem dX11_addRule_64 : decode cX11_addRule 64 = .ok (.bipush 58, 2) := by decide +kernel
theorem dX11_addRule_66 : decode cX11_addRule 66 = .ok (.aload_n 0, 1) := by decide +kernel
theorem dX11_addRule_67 : decode cX11_addRule 67 = .ok (.getfield 9, 3) := by decide +kernel
theorem dX11_addRule_70 : decode cX11_addRule 70 = .ok (.sipush 230, 3) := by decide +kernel
theorem dX11_addRule_73 : decode cX11_addRule 73 = .ok (.iaload, 1) := by decide +kernel
theorem dX11_addRule_74 : decode cX11_addRule 74 = .ok (.imul, 1) := by decide +kernel
theorem dX11_addRule_75 : decode cX11_addRule 75 = .ok (.iadd, 1) := by decide +kernel
theorem dX11_addRule_76 : decode cX11_addRule 76 = .ok (.iload_n 1, 1) := by decide +kernel
theorem dX11_addRule_77 : decode cX11_addRule 77 = .ok (.iadd, 1) := by decide +kernel
theorem dX11_addRule_78 : decode cX11_addRule 78 = .ok (.aload_n 0, 1) := by decide +kernel
theorem dX11_addRule_79 : decode cX11_addRule 79 = .ok (.getfield 34, 3) := by decide +kernel
theorem dX11_addRule_82 : decode cX11_addRule 82 = .ok (.iload_n 1, 1) := by decide +kernel
theorem dX11_addRule_83 : decode cX11_addRule 83 = .ok (.iaload, 1) := by decide +kernel
theorem dX11_addRule_84 : decode cX11_addRule 84 = .ok (.iastore, 1) := by decide +kernel
theorem dX11_addRule_85 : decode cX11_addRule 85 = .ok (.iinc 1 1, 3) := by decide +kernel
theorem dX11_addRule_88 : decode cX11_addRule 88 = .ok (.goto (-37), 3) := by decide +kernel
theorem dX11_addRule_91 : decode cX11_addRule 91 = .ok (.aload_n 0, 1) := by decide +kernel
theorem dX11_addRule_92 : decode cX11_addRule 92 = .ok (.getfield 9, 3) := by decide +kernel
theorem dX11_addRule_95 : decode cX11_addRule 95 = .ok (.sipush 230, 3) := by decide +kernel
theorem dX11_addRule_98 : decode cX11_addRule 98 = .ok (.dup2, 1) := by decide +kernel
theorem dX11_addRule_99 : decode cX11_addRule 99 = .ok (.iaload, 1) := by decide +kernel
theorem dX11_addRule_100 : decode cX11_addRule 100 = .ok (.iconst 1, 1) := by decide +kernel
theorem dX11_addRule_101 : decode cX11_addRule 101 = .ok (.iadd, 1) := by decide +kernel
theorem dX11_addRule_102 : decode cX11_addRule 102 = .ok (.iastore, 1) := by decide +kernel
theorem dX11_addRule_103 : decode cX11_addRule 103 = .ok (.aload_n 0, 1) := by decide +kernel
theorem dX11_addRule_104 : decode cX11_addRule 104 = .ok (.getfield 9, 3) := by decide +kernel
theorem dX11_addRule_107 : decode cX11_addRule 107 = .ok (.sipush 230, 3) := by decide +kernel
theorem dX11_addRule_110 : decode cX11_addRule 110 = .ok (.iaload, 1) := by decide +kernel
theorem dX11_addRule_111 : decode cX11_addRule 111 = .ok (.iconst 1, 1) := by decide +kernel
theorem dX11_addRule_112 : decode cX11_addRule 112 = .ok (.isub, 1) := by decide +kernel
theorem dX11_addRule_113 : decode cX11_addRule 113 = .ok (.ireturn, 1) := by decide +kernel
theorem dX11_isRule_0 : decode cX11_isRule 0 = .ok (.iload_n 1, 1) := by decide +kernel
theorem dX11_isRule_1 : decode cX11_isRule 1 = .ok (.iconst 0, 1) := by decide +kernel
theorem dX11_isRule_2 : decode cX11_isRule 2 = .ok (.aload_n 0, 1) := by decide +kernel
theorem dX11_isRule_3 : decode cX11_isRule 3 = .ok (.getfield 9, 3) := by decide +kernel
theorem dX11_isRule_6 : decode cX11_isRule 6 = .ok (.sipush 230, 3) := by decide +kernel
theorem dX11_isRule_9 : decode cX11_isRule 9 = .ok (.iaload, 1) := by decide +kernel
theorem dX11_isRule_10 : decode cX11_isRule 10 = .ok (.iconst 1, 1) := by decide +kernel
theorem dX11_isRule_11 : decode cX11_isRule 11 = .ok (.isub, 1) := by decide +kernel
theorem dX11_isRule_12 : decode cX11_isRule 12 = .ok (.invokestatic 44, 3) := by decide +kernel
theorem dX11_isRule_15 : decode cX11_isRule 15 = .ok (.ireturn, 1) := by decide +kernel
theorem dX11_removeRule_0 : decode cX11_removeRule 0 = .ok (.aload_n 0, 1) := by decide +kernel
theorem dX11_removeRule_1 : decode cX11_removeRule 1 = .ok (.iload_n 1, 1) := by decide +kernel
theorem dX11_removeRule_2 : decode cX11_removeRule 2 = .ok (.invokevirtual 103, 3) := by decide +kernel
theorem dX11_removeRule_5 : decode cX11_removeRule 5 = .ok (.ifCond .ne 5, 3) := by decide +kernel
theorem dX11_removeRule_8 : decode cX11_removeRule 8 = .ok (.iconst (-1), 1) := by decide +kernel
theorem dX11_removeRule_9 : decode cX11_removeRule 9 = .ok (.ireturn, 1) := by decide +kernel
theorem dX11_removeRule_10 : decode cX11_removeRule 10 = .ok (.aload_n 0, 1) := by decide +kernel
theorem dX11_removeRule_11 : decode cX11_removeRule 11 = .ok (.invokevirtual 55, 3) := by decide +kernel
theorem dX11_removeRule_14 : decode cX11_removeRule 14 = .ok (.aload_n 0, 1) := by decide +kernel
theorem dX11_removeRule_15 : decode cX11_removeRule 15 = .ok (.getfield 9, 3) := by decide +kernel
theorem dX11_removeRule_18 : decode cX11_removeRule 18 = .ok (.sipush 230, 3) := by decide +kernel
theorem dX11_removeRule_21 : decode cX11_removeRule 21 = .ok (.dup2, 1) := by decide +kernel
theorem dX11_removeRule_22 : decode cX11_removeRule 22 = .ok (.iaload, 1) := by decide +kernel
theorem dX11_removeRule_23 : decode cX11_removeRule 23 = .ok (.iconst 1, 1) := by decide +kernel
theorem dX11_removeRule_24 : decode cX11_removeRule 24 = .ok (.isub, 1) := by decide +kernel
theorem dX11_removeRule_25 : decode cX11_removeRule 25 = .ok (.iastore, 1) := by decide +kernel
theorem dX11_removeRule_26 : decode cX11_removeRule 26 = .ok (.sipush 231, 3) := by decide +kernel
theorem dX11_removeRule_29 : decode cX11_removeRule 29 = .ok (.bipush 58, 2) := by decide +kernel
theorem dX11_removeRule_31 : decode cX11_removeRule 31 = .ok (.iload_n 1, 1) := by decide +kernel
theorem dX11_removeRule_32 : decode cX11_removeRule 32 = .ok (.imul, 1) := by decide +kernel
theorem dX11_removeRule_33 : decode cX11_removeRule 33 = .ok (.iadd, 1) := by decide +kernel
theorem dX11_removeRule_34 : decode cX11_removeRule 34 = .ok (.istore_n 2, 1) := by decide +kernel
theorem dX11_removeRule_35 : decode cX11_removeRule 35 = .ok (.iload_n 2, 1) := by decide +kernel
theorem dX11_removeRule_36 : decode cX11_removeRule 36 = .ok (.sipush 231, 3) := by decide +kernel
theorem dX11_removeRule_39 : decode cX11_removeRule 39 = .ok (.bipush 58, 2) := by decide +kernel
theorem dX11_removeRule_41 : decode cX11_removeRule 41 = .ok (.aload_n 0, 1) := by decide +kernel
theorem dX11_removeRule_42 : decode cX11_removeRule 42 = .ok (.getfield 9, 3) := by decide +kernel
theorem dX11_removeRule_45 : decode cX11_removeRule 45 = .ok (.sipush 230, 3) := by decide +kernel
theorem dX11_removeRule_48 : decode cX11_removeRule 48 = .ok (.iaload, 1) := by decide +kernel
theorem dX11_removeRule_49 : decode cX11_removeRule 49 = .ok (.imul, 1) := by decide +kernel
theorem dX11_removeRule_50 : decode cX11_removeRule 50 = .ok (.iadd, 1) := by decide +kernel
theorem dX11_removeRule_51 : decode cX11_removeRule 51 = .ok (.if_icmp .ge 24, 3) := by decide +kernel
theorem dX11_removeRule_54 : decode cX11_removeRule 54 = .ok (.aload_n 0, 1) := by decide +kernel
theorem dX11_removeRule_55 : decode cX11_removeRule 55 = .ok (.getfield 9, 3) := by decide +kernel
theorem dX11_removeRule_58 : decode cX11_removeRule 58 = .ok (.iload_n 2, 1) := by decide +kernel
theorem dX11_removeRule_59 : decode cX11_removeRule 59 = .ok (.aload_n 0, 1) := by decide +kernel
theorem dX11_removeRule_60 : decode cX11_removeRule 60 = .ok (.getfield 9, 3) := by decide +kernel
theorem dX11_removeRule_63 : decode cX11_removeRule 63 = .ok (.iload_n 2, 1) := by decide +kernel
theorem dX11_removeRule_64 : decode cX11_removeRule 64 = .ok (.bipush 58, 2) := by decide +kernel
theorem dX11_removeRule_66 : decode cX11_removeRule 66 = .ok (.iadd, 1) := by decide +kernel
theorem dX11_removeRule_67 : decode cX11_removeRule 67 = .ok (.iaload, 1) := by decide +kernel
theorem dX11_removeRule_68 : decode cX11_removeRule 68 = .ok (.iastore, 1) := by decide +kernel
theorem dX11_removeRule_69 : decode cX11_removeRule 69 = .ok (.iinc 2 1, 3) := by decide +kernel
theorem dX11_removeRule_72 : decode cX11_removeRule 72 = .ok (.goto (-37), 3) := by decide +kernel
theorem dX11_removeRule_75 : decode cX11_removeRule 75 = .ok (.aload_n 0, 1) := by decide +kernel
theorem dX11_removeRule_76 : decode cX11_removeRule 76 = .ok (.getfield 9, 3) := by decide +kernel
theorem dX11_removeRule_79 : decode cX11_removeRule 79 = .ok (.sipush 230, 3) := by decide +kernel
theorem dX11_removeRule_82 : decode cX11_removeRule 82 = .ok (.iaload, 1) := by decide +kernel
theorem dX11_removeRule_83 : decode cX11_removeRule 83 = .ok (.ireturn, 1) := by decide +kernel
theorem dX11_swaps_0 : decode cX11_swaps 0 = .ok (.sipush 231, 3) := by decide +kernel
theorem dX11_swaps_3 : decode cX11_swaps 3 = .ok (.bipush 58, 2) := by decide +kernel
theorem dX11_swaps_5 : decode cX11_swaps 5 = .ok (.iload_n 1, 1) := by decide +kernel
theorem dX11_swaps_6 : decode cX11_swaps 6 = .ok (.imul, 1) := by decide +kernel
theorem dX11_swaps_7 : decode cX11_swaps 7 = .ok (.iadd, 1) := by decide +kernel
theorem dX11_swaps_8 : decode cX11_swaps 8 = .ok (.istore_n 2, 1) := by decide +kernel
theorem dX11_swaps_9 : decode cX11_swaps 9 = .ok (.iload_n 2, 1) := by decide +kernel
theorem dX11_swaps_10 : decode cX11_swaps 10 = .ok (.sipush 231, 3) := by decide +kernel
theorem dX11_swaps_13 : decode cX11_swaps 13 = .ok (.bipush 58, 2) := by decide +kernel
theorem dX11_swaps_15 : decode cX11_swaps 15 = .ok (.iload_n 1, 1) := by decide +kernel
theorem dX11_swaps_16 : decode cX11_swaps 16 = .ok (.iconst 1, 1) := by decide +kernel
theorem dX11_swaps_17 : decode cX11_swaps 17 = .ok (.iadd, 1) := by decide +kernel
theorem dX11_swaps_18 : decode cX11_swaps 18 = .ok (.imul, 1) := by decide +kernel
theorem dX11_swaps_19 : decode cX11_swaps 19 = .ok (.iadd, 1) := by decide +kernel
theorem dX11_swaps_20 : decode cX11_swaps 20 = .ok (.if_icmp .ge 41, 3) := by decide +kernel
theorem dX11_swaps_23 : decode cX11_swaps 23 = .ok (.aload_n 0, 1) := by decide +kernel
theorem dX11_swaps_24 : decode cX11_swaps 24 = .ok (.getfield 9, 3) := by decide +kernel
theorem dX11_swaps_27 : decode cX11_swaps 27 = .ok (.iload_n 2, 1) := by decide +kernel
theorem dX11_swaps_28 : decode cX11_swaps 28 = .ok (.iaload, 1) := by decide +kernel
theorem dX11_swaps_29 : decode cX11_swaps 29 = .ok (.istore_n 3, 1) := by decide +kernel
theorem dX11_swaps_30 : decode cX11_swaps 30 = .ok (.aload_n 0, 1) := by decide +kernel
theorem dX11_swaps_31 : decode cX11_swaps 31 = .ok (.getfield 9, 3) := by decide +kernel
theorem dX11_swaps_34 : decode cX11_swaps 34 = .ok (.iload_n 2, 1) := by decide +kernel
theorem dX11_swaps_35 : decode cX11_swaps 35 = .ok (.aload_n 0, 1) := by decide +kernel
theorem dX11_swaps_36 : decode cX11_swaps 36 = .ok (.getfield 9, 3) := by decide +kernel
theorem dX11_swaps_39 : decode cX11_swaps 39 = .ok (.iload_n 2, 1) := by decide +kernel
theorem dX11_swaps_40 : decode cX11_swaps 40 = .ok (.bipush 58, 2) := by decide +kernel
theorem dX11_swaps_42 : decode cX11_swaps 42 = .ok (.iadd, 1) := by decide +kernel
theorem dX11_swaps_43 : decode cX11_swaps 43 = .ok (.iaload, 1) := by decide +kernel
theorem dX11_swaps_44 : decode cX11_swaps 44 = .ok (.iastore, 1) := by decide +kernel
theorem dX11_swaps_45 : decode cX11_swaps 45 = .ok (.aload_n 0, 1) := by decide +kernel
theorem dX11_swaps_46 : decode cX11_swaps 46 = .ok (.getfield 9, 3) := by decide +kernel
theorem dX11_swaps_49 : decode cX11_swaps 49 = .ok (.iload_n 2, 1) := by decide +kernel
theorem dX11_swaps_50 : decode cX11_swaps 50 = .ok (.bipush 58, 2) := by decide +kernel
theorem dX11_swaps_52 : decode cX11_swaps 52 = .ok (.iadd, 1) := by decide +kernel
theorem dX11_swaps_53 : decode cX11_swaps 53 = .ok (.iload_n 3, 1) := by decide +kernel
theorem dX11_swaps_54 : decode cX11_swaps 54 = .ok (.iastore, 1) := by decide +kernel
theorem dX11_swaps_55 : decode cX11_swaps 55 = .ok (.iinc 2 1, 3) := by decide +kernel
theorem dX11_swaps_58 : decode cX11_swaps 58 = .ok (.goto (-49), 3) := by decide +kernel
theorem dX11_swaps_61 : decode cX11_swaps 61 = .ok (.return_, 1) := by decide +kernel
theorem dX11_moveRule_0 : decode cX11_moveRule 0 = .ok (.aload_n 0, 1) := by decide +kernel
theorem dX11_moveRule_1 : decode cX11_moveRule 1 = .ok (.iload_n 1, 1) := by decide +kernel
theorem dX11_moveRule_2 : decode cX11_moveRule 2 = .ok (.invokevirtual 103, 3) := by decide +kernel
theorem dX11_moveRule_5 : decode cX11_moveRule 5 = .ok (.ifCond .ne 5, 3) := by decide +kernel
theorem dX11_moveRule_8 : decode cX11_moveRule 8 = .ok (.iconst (-1), 1) := by decide +kernel
theorem dX11_moveRule_9 : decode cX11_moveRule 9 = .ok (.ireturn, 1) := by decide +kernel
theorem dX11_moveRule_10 : decode cX11_moveRule 10 = .ok (.aload_n 0, 1) := by decide +kernel
theorem dX11_moveRule_11 : decode cX11_moveRule 11 = .ok (.iload_n 2, 1) := by decide +kernel
theorem dX11_moveRule_12 : decode cX11_moveRule 12 = .ok (.invokevirtual 103, 3) := by decide +kernel
theorem dX11_moveRule_15 : decode cX11_moveRule 15 = .ok (.ifCond .ne 6, 3) := by decide +kernel
theorem dX11_moveRule_18 : decode cX11_moveRule 18 = .ok (.bipush (-2), 2) := by decide +kernel
theorem dX11_moveRule_20 : decode cX11_moveRule 20 = .ok (.ireturn, 1) := by decide +kernel
theorem dX11_moveRule_21 : decode cX11_moveRule 21 = .ok (.aload_n 0, 1) := by decide +kernel
theorem dX11_moveRule_22 : decode cX11_moveRule 22 = .ok (.invokevirtual 55, 3) := by decide +kernel
theorem dX11_moveRule_25 : decode cX11_moveRule 25 = .ok (.iload_n 1, 1) := by decide +kernel
theorem dX11_moveRule_26 : decode cX11_moveRule 26 = .ok (.istore_n 3, 1) := by decide +kernel
theorem dX11_moveRule_27 : decode cX11_moveRule 27 = .ok (.iload_n 3, 1) := by decide +kernel
theorem dX11_moveRule_28 : decode cX11_moveRule 28 = .ok (.iload_n 2, 1) := by decide +kernel
theorem dX11_moveRule_29 : decode cX11_moveRule 29 = .ok (.if_icmp .ge 14, 3) := by decide +kernel
theorem dX11_moveRule_32 : decode cX11_moveRule 32 = .ok (.aload_n 0, 1) := by decide +kernel
theorem dX11_moveRule_33 : decode cX11_moveRule 33 = .ok (.iload_n 3, 1) := by decide +kernel
theorem dX11_moveRule_34 : decode cX11_moveRule 34 = .ok (.invokevirtual 106, 3) := by decide +kernel
theorem dX11_moveRule_37 : decode cX11_moveRule 37 = .ok (.iinc 3 1, 3) := by decide +kernel
theorem dX11_moveRule_40 : decode cX11_moveRule 40 = .ok (.goto (-13), 3) := by decide +kernel
theorem dX11_moveRule_43 : decode cX11_moveRule 43 = .ok (.iload_n 1, 1) := by decide +kernel
theorem dX11_moveRule_44 : decode cX11_moveRule 44 = .ok (.iconst 1, 1) := by decide +kernel
theorem dX11_moveRule_45 : decode cX11_moveRule 45 = .ok (.isub, 1) := by decide +kernel
theorem dX11_moveRule_46 : decode cX11_moveRule 46 = .ok (.istore_n 3, 1) := by decide +kernel
theorem dX11_moveRule_47 : decode cX11_moveRule 47 = .ok (.iload_n 3, 1) := by decide +kernel
theorem dX11_moveRule_48 : decode cX11_moveRule 48 = .ok (.iload_n 2, 1) := by decide +kernel
theorem dX11_moveRule_49 : decode cX11_moveRule 49 = .ok (.if_icmp .lt 14, 3) := by decide +kernel
theorem dX11_moveRule_52 : decode cX11_moveRule 52 = .ok (.aload_n 0, 1) := by decide +kernel
theorem dX11_moveRule_53 : decode cX11_moveRule 53 = .ok (.iload_n 3, 1) := by decide +kernel
theorem dX11_moveRule_54 : decode cX11_moveRule 54 = .ok (.invokevirtual 106, 3) := by decide +kernel
theorem dX11_moveRule_57 : decode cX11_moveRule 57 = .ok (.iinc 3 (-1), 3) := by decide +kernel
theorem dX11_moveRule_60 : decode cX11_moveRule 60 = .ok (.goto (-13), 3) := by decide +kernel
theorem dX11_moveRule_63 : decode cX11_moveRule 63 = .ok (.iload_n 1, 1) := by decide +kernel
theorem dX11_moveRule_64 : decode cX11_moveRule 64 = .ok (.iload_n 2, 1) := by decide +kernel
theorem dX11_moveRule_65 : decode cX11_moveRule 65 = .ok (.if_icmp .le 9, 3) := by decide +kernel
theorem dX11_moveRule_68 : decode cX11_moveRule 68 = .ok (.iload_n 1, 1) := by decide +kernel
theorem dX11_moveRule_69 : decode cX11_moveRule 69 = .ok (.iload_n 2, 1) := by decide +kernel
theorem dX11_moveRule_70 : decode cX11_moveRule 70 = .ok (.isub, 1) := by decide +kernel
theorem dX11_moveRule_71 : decode cX11_moveRule 71 = .ok (.goto 6, 3) := by decide +kernel
theorem dX11_moveRule_74 : decode cX11_moveRule 74 = .ok (.iload_n 2, 1) := by decide +kernel
theorem dX11_moveRule_75 : decode cX11_moveRule 75 = .ok (.iload_n 1, 1) := by decide +kernel
theorem dX11_moveRule_76 : decode cX11_moveRule 76 = .ok (.isub, 1) := by decide +kernel
theorem dX11_moveRule_77 : decode cX11_moveRule 77 = .ok (.ireturn, 1) := by decide +kernel
theorem dX11_fits_0 : decode cX11_fits 0 = .ok (.sipush 231, 3) := by decide +kernel
theorem dX11_fits_3 : decode cX11_fits 3 = .ok (.bipush 58, 2) := by decide +kernel
theorem dX11_fits_5 : decode cX11_fits 5 = .ok (.iload_n 1, 1) := by decide +kernel
theorem dX11_fits_6 : decode cX11_fits 6 = .ok (.imul, 1) := by decide +kernel
theorem dX11_fits_7 : decode cX11_fits 7 = .ok (.iadd, 1) := by decide +kernel
theorem dX11_fits_8 : decode cX11_fits 8 = .ok (.istore_n 3, 1) := by decide +kernel
theorem dX11_fits_9 : decode cX11_fits 9 = .ok (.aload_n 0, 1) := by decide +kernel
theorem dX11_fits_10 : decode cX11_fits 10 = .ok (.getfield 9, 3) := by decide +kernel
theorem dX11_fits_13 : decode cX11_fits 13 = .ok (.iload_n 3, 1) := by decide +kernel
theorem dX11_fits_14 : decode cX11_fits 14 = .ok (.iaload, 1) := by decide +kernel
theorem dX11_fits_15 : decode cX11_fits 15 = .ok (.aload_n 0, 1) := by decide +kernel
theorem dX11_fits_16 : decode cX11_fits 16 = .ok (.getfield 74, 3) := by decide +kernel
theorem dX11_fits_19 : decode cX11_fits 19 = .ok (.if_icmp .gt 28, 3) := by decide +kernel
theorem dX11_fits_22 : decode cX11_fits 22 = .ok (.iload_n 2, 1) := by decide +kernel
theorem dX11_fits_23 : decode cX11_fits 23 = .ok (.aload_n 0, 1) := by decide +kernel
theorem dX11_fits_24 : decode cX11_fits 24 = .ok (.getfield 9, 3) := by decide +kernel
theorem dX11_fits_27 : decode cX11_fits 27 = .ok (.iload_n 3, 1) := by decide +kernel
theorem dX11_fits_28 : decode cX11_fits 28 = .ok (.bipush 41, 2) := by decide +kernel
theorem dX11_fits_30 : decode cX11_fits 30 = .ok (.iadd, 1) := by decide +kernel
theorem dX11_fits_31 : decode cX11_fits 31 = .ok (.iaload, 1) := by decide +kernel
theorem dX11_fits_32 : decode cX11_fits 32 = .ok (.aload_n 0, 1) := by decide +kernel
theorem dX11_fits_33 : decode cX11_fits 33 = .ok (.getfield 9, 3) := by decide +kernel
theorem dX11_fits_36 : decode cX11_fits 36 = .ok (.iload_n 3, 1) := by decide +kernel
theorem dX11_fits_37 : decode cX11_fits 37 = .ok (.bipush 42, 2) := by decide +kernel
theorem dX11_fits_39 : decode cX11_fits 39 = .ok (.iadd, 1) := by decide +kernel
theorem dX11_fits_40 : decode cX11_fits 40 = .ok (.iaload, 1) := by decide +kernel
theorem dX11_fits_41 : decode cX11_fits 41 = .ok (.invokestatic 44, 3) := by decide +kernel
theorem dX11_fits_44 : decode cX11_fits 44 = .ok (.ifCond .ne 5, 3) := by decide +kernel
theorem dX11_fits_47 : decode cX11_fits 47 = .ok (.iconst 0, 1) := by decide +kernel
theorem dX11_fits_48 : decode cX11_fits 48 = .ok (.ireturn, 1) := by decide +kernel
theorem dX11_fits_49 : decode cX11_fits 49 = .ok (.iconst 0, 1) := by decide +kernel
theorem dX11_fits_50 : decode cX11_fits 50 = .ok (.istore 4, 2) := by decide +kernel
theorem dX11_fits_52 : decode cX11_fits 52 = .ok (.iload 4, 2) := by decide +kernel
theorem dX11_fits_54 : decode cX11_fits 54 = .ok (.aload_n 0, 1) := by decide +kernel
theorem dX11_fits_55 : decode cX11_fits 55 = .ok (.getfield 9, 3) := by decide +kernel
theorem dX11_fits_58 : decode cX11_fits 58 = .ok (.iload_n 3, 1) := by decide +kernel
theorem dX11_fits_59 : decode cX11_fits 59 = .ok (.iaload, 1) := by decide +kernel
theorem dX11_fits_60 : decode cX11_fits 60 = .ok (.if_icmp .ge 32, 3) := by decide +kernel
theorem dX11_fits_63 : decode cX11_fits 63 = .ok (.aload_n 0, 1) := by decide +kernel
theorem dX11_fits_64 : decode cX11_fits 64 = .ok (.getfield 9, 3) := by decide +kernel
theorem dX11_fits_67 : decode cX11_fits 67 = .ok (.iload_n 3, 1) := by decide +kernel
theorem dX11_fits_68 : decode cX11_fits 68 = .ok (.iconst 1, 1) := by decide +kernel
theorem dX11_fits_69 : decode cX11_fits 69 = .ok (.iadd, 1) := by decide +kernel
theorem dX11_fits_70 : decode cX11_fits 70 = .ok (.iload 4, 2) := by decide +kernel
theorem dX11_fits_72 : decode cX11_fits 72 = .ok (.iadd, 1) := by decide +kernel
theorem dX11_fits_73 : decode cX11_fits 73 = .ok (.iaload, 1) := by decide +kernel
theorem dX11_fits_74 : decode cX11_fits 74 = .ok (.aload_n 0, 1) := by decide +kernel
theorem dX11_fits_75 : decode cX11_fits 75 = .ok (.getfield 22, 3) := by decide +kernel
theorem dX11_fits_78 : decode cX11_fits 78 = .ok (.iload 4, 2) := by decide +kernel
theorem dX11_fits_80 : decode cX11_fits 80 = .ok (.iaload, 1) := by decide +kernel
theorem dX11_fits_81 : decode cX11_fits 81 = .ok (.if_icmp .eq 5, 3) := by decide +kernel
theorem dX11_fits_84 : decode cX11_fits 84 = .ok (.iconst 0, 1) := by decide +kernel
theorem dX11_fits_85 : decode cX11_fits 85 = .ok (.ireturn, 1) := by decide +kernel
theorem dX11_fits_86 : decode cX11_fits 86 = .ok (.iinc 4 1, 3) := by decide +kernel
theorem dX11_fits_89 : decode cX11_fits 89 = .ok (.goto (-37), 3) := by decide +kernel
theorem dX11_fits_92 : decode cX11_fits 92 = .ok (.iconst 1, 1) := by decide +kernel
theorem dX11_fits_93 : decode cX11_fits 93 = .ok (.ireturn, 1) := by decide +kernel
theorem dX11_ruleOf_0 : decode cX11_ruleOf 0 = .ok (.iconst 0, 1) := by decide +kernel
theorem dX11_ruleOf_1 : decode cX11_ruleOf 1 = .ok (.istore_n 2, 1) := by decide +kernel
theorem dX11_ruleOf_2 : decode cX11_ruleOf 2 = .ok (.iload_n 2, 1) := by decide +kernel
theorem dX11_ruleOf_3 : decode cX11_ruleOf 3 = .ok (.aload_n 0, 1) := by decide +kernel
theorem dX11_ruleOf_4 : decode cX11_ruleOf 4 = .ok (.getfield 9, 3) := by decide +kernel
theorem dX11_ruleOf_7 : decode cX11_ruleOf 7 = .ok (.sipush 230, 3) := by decide +kernel
theorem dX11_ruleOf_10 : decode cX11_ruleOf 10 = .ok (.iaload, 1) := by decide +kernel
theorem dX11_ruleOf_11 : decode cX11_ruleOf 11 = .ok (.if_icmp .ge 18, 3) := by decide +kernel
theorem dX11_ruleOf_14 : decode cX11_ruleOf 14 = .ok (.aload_n 0, 1) := by decide +kernel
theorem dX11_ruleOf_15 : decode cX11_ruleOf 15 = .ok (.iload_n 2, 1) := by decide +kernel
theorem dX11_ruleOf_16 : decode cX11_ruleOf 16 = .ok (.iload_n 1, 1) := by decide +kernel
theorem dX11_ruleOf_17 : decode cX11_ruleOf 17 = .ok (.invokevirtual 109, 3) := by decide +kernel
theorem dX11_ruleOf_20 : decode cX11_ruleOf 20 = .ok (.ifCond .ne 9, 3) := by decide +kernel
theorem dX11_ruleOf_23 : decode cX11_ruleOf 23 = .ok (.iinc 2 1, 3) := by decide +kernel
theorem dX11_ruleOf_26 : decode cX11_ruleOf 26 = .ok (.goto (-24), 3) := by decide +kernel
theorem dX11_ruleOf_29 : decode cX11_ruleOf 29 = .ok (.iload_n 2, 1) := by decide +kernel
theorem dX11_ruleOf_30 : decode cX11_ruleOf 30 = .ok (.aload_n 0, 1) := by decide +kernel
theorem dX11_ruleOf_31 : decode cX11_ruleOf 31 = .ok (.getfield 9, 3) := by decide +kernel
theorem dX11_ruleOf_34 : decode cX11_ruleOf 34 = .ok (.sipush 230, 3) := by decide +kernel
theorem dX11_ruleOf_37 : decode cX11_ruleOf 37 = .ok (.iaload, 1) := by decide +kernel
theorem dX11_ruleOf_38 : decode cX11_ruleOf 38 = .ok (.if_icmp .ge 7, 3) := by decide +kernel
theorem dX11_ruleOf_41 : decode cX11_ruleOf 41 = .ok (.iload_n 2, 1) := by decide +kernel
theorem dX11_ruleOf_42 : decode cX11_ruleOf 42 = .ok (.goto 4, 3) := by decide +kernel
theorem dX11_ruleOf_45 : decode cX11_ruleOf 45 = .ok (.iconst (-1), 1) := by decide +kernel
theorem dX11_ruleOf_46 : decode cX11_ruleOf 46 = .ok (.ireturn, 1) := by decide +kernel
theorem dX11_match_0 : decode cX11_match 0 = .ok (.iload_n 1, 1) := by decide +kernel
theorem dX11_match_1 : decode cX11_match 1 = .ok (.iconst 0, 1) := by decide +kernel
theorem dX11_match_2 : decode cX11_match 2 = .ok (.bipush 9, 2) := by decide +kernel
theorem dX11_match_4 : decode cX11_match 4 = .ok (.invokestatic 44, 3) := by decide +kernel
theorem dX11_match_7 : decode cX11_match 7 = .ok (.ifCond .ne 8, 3) := by decide +kernel
theorem dX11_match_10 : decode cX11_match 10 = .ok (.bipush (-2), 2) := by decide +kernel
theorem dX11_match_12 : decode cX11_match 12 = .ok (.goto 20, 3) := by decide +kernel
theorem dX11_match_15 : decode cX11_match 15 = .ok (.aload_n 0, 1) := by decide +kernel
theorem dX11_match_16 : decode cX11_match 16 = .ok (.invokevirtual 113, 3) := by decide +kernel
theorem dX11_match_19 : decode cX11_match 19 = .ok (.ifCond .ne 8, 3) := by decide +kernel
theorem dX11_match_22 : decode cX11_match 22 = .ok (.bipush (-7), 2) := by decide +kernel
theorem dX11_match_24 : decode cX11_match 24 = .ok (.goto 8, 3) := by decide +kernel
theorem dX11_match_27 : decode cX11_match 27 = .ok (.aload_n 0, 1) := by decide +kernel
theorem dX11_match_28 : decode cX11_match 28 = .ok (.iload_n 1, 1) := by decide +kernel
theorem dX11_match_29 : decode cX11_match 29 = .ok (.invokevirtual 117, 3) := by decide +kernel
theorem dX11_match_32 : decode cX11_match 32 = .ok (.ireturn, 1) := by decide +kernel
theorem dX11_isMember_0 : decode cX11_isMember 0 = .ok (.aload_n 0, 1) := by decide +kernel
theorem dX11_isMember_1 : decode cX11_isMember 1 = .ok (.iload_n 1, 1) := by decide +kernel
theorem dX11_isMember_2 : decode cX11_isMember 2 = .ok (.iconst 0, 1) := by decide +kernel
theorem dX11_isMember_3 : decode cX11_isMember 3 = .ok (.invokevirtual 66, 3) := by decide +kernel
theorem dX11_isMember_6 : decode cX11_isMember 6 = .ok (.iload_n 2, 1) := by decide +kernel
theorem dX11_isMember_7 : decode cX11_isMember 7 = .ok (.if_icmp .ne 16, 3) := by decide +kernel
theorem dX11_isMember_10 : decode cX11_isMember 10 = .ok (.aload_n 0, 1) := by decide +kernel
theorem dX11_isMember_11 : decode cX11_isMember 11 = .ok (.iload_n 1, 1) := by decide +kernel
theorem dX11_isMember_12 : decode cX11_isMember 12 = .ok (.iconst 2, 1) := by decide +kernel
theorem dX11_isMember_13 : decode cX11_isMember 13 = .ok (.invokevirtual 66, 3) := by decide +kernel
theorem dX11_isMember_16 : decode cX11_isMember 16 = .ok (.ifCond .le 7, 3) := by decide +kernel
theorem dX11_isMember_19 : decode cX11_isMember 19 = .ok (.iconst 1, 1) := by decide +kernel
theorem dX11_isMember_20 : decode cX11_isMember 20 = .ok (.goto 4, 3) := by decide +kernel
theorem dX11_isMember_23 : decode cX11_isMember 23 = .ok (.iconst 0, 1) := by decide +kernel
theorem dX11_isMember_24 : decode cX11_isMember 24 = .ok (.ireturn, 1) := by decide +kernel
theorem dX11_isAvailable_0 : decode cX11_isAvailable 0 = .ok (.aload_n 0, 1) := by decide +kernel
theorem dX11_isAvailable_1 : decode cX11_isAvailable 1 = .ok (.iload_n 1, 1) := by decide +kernel
theorem dX11_isAvailable_2 : decode cX11_isAvailable 2 = .ok (.iload_n 2, 1) := by decide +kernel
theorem dX11_isAvailable_3 : decode cX11_isAvailable 3 = .ok (.invokevirtual 121, 3) := by decide +kernel
theorem dX11_isAvailable_6 : decode cX11_isAvailable 6 = .ok (.ifCond .eq 17, 3) := by decide +kernel
theorem dX11_isAvailable_9 : decode cX11_isAvailable 9 = .ok (.aload_n 0, 1) := by decide +kernel
theorem dX11_isAvailable_10 : decode cX11_isAvailable 10 = .ok (.iload_n 1, 1) := by decide +kernel
theorem dX11_isAvailable_11 : decode cX11_isAvailable 11 = .ok (.bipush 9, 2) := by decide +kernel
theorem dX11_isAvailable_13 : decode cX11_isAvailable 13 = .ok (.invokevirtual 66, 3) := by decide +kernel
theorem dX11_isAvailable_16 : decode cX11_isAvailable 16 = .ok (.ifCond .ne 7, 3) := by decide +kernel
theorem dX11_isAvailable_19 : decode cX11_isAvailable 19 = .ok (.iconst 1, 1) := by decide +kernel
theorem dX11_isAvailable_20 : decode cX11_isAvailable 20 = .ok (.goto 4, 3) := by decide +kernel
theorem dX11_isAvailable_23 : decode cX11_isAvailable 23 = .ok (.iconst 0, 1) := by decide +kernel
theorem dX11_isAvailable_24 : decode cX11_isAvailable 24 = .ok (.ireturn, 1) := by decide +kernel
theorem dX11_availables_0 : decode cX11_availables 0 = .ok (.iconst 0, 1) := by decide +kernel
theorem dX11_availables_1 : decode cX11_availables 1 = .ok (.istore_n 2, 1) := by decide +kernel
theorem dX11_availables_2 : decode cX11_availables 2 = .ok (.iconst 0, 1) := by decide +kernel
theorem dX11_availables_3 : decode cX11_availables 3 = .ok (.istore_n 3, 1) := by decide +kernel
theorem dX11_availables_4 : decode cX11_availables 4 = .ok (.iload_n 3, 1) := by decide +kernel
theorem dX11_availables_5 : decode cX11_availables 5 = .ok (.aload_n 0, 1) := by decide +kernel
theorem dX11_availables_6 : decode cX11_availables 6 = .ok (.getfield 9, 3) := by decide +kernel
theorem dX11_availables_9 : decode cX11_availables 9 = .ok (.sipush 144, 3) := by decide +kernel
theorem dX11_availables_12 : decode cX11_availables 12 = .ok (.iaload, 1) := by decide +kernel
theorem dX11_availables_13 : decode cX11_availables 13 = .ok (.if_icmp .ge 28, 3) := by decide +kernel
theorem dX11_availables_16 : decode cX11_availables 16 = .ok (.iload_n 2, 1) := by decide +kernel
theorem dX11_availables_17 : decode cX11_availables 17 = .ok (.aload_n 0, 1) := by decide +kernel
theorem dX11_availables_18 : decode cX11_availables 18 = .ok (.iload_n 3, 1) := by decide +kernel
theorem dX11_availables_19 : decode cX11_availables 19 = .ok (.iload_n 1, 1) := by decide +kernel
theorem dX11_availables_20 : decode cX11_availables 20 = .ok (.invokevirtual 124, 3) := by decide +kernel
theorem dX11_availables_23 : decode cX11_availables 23 = .ok (.ifCond .eq 9, 3) := by decide +kernel
theorem dX11_availables_26 : decode cX11_availables 26 = .ok (.iconst 1, 1) := by decide +kernel
theorem dX11_availables_27 : decode cX11_availables 27 = .ok (.iload_n 3, 1) := by decide +kernel
theorem dX11_availables_28 : decode cX11_availables 28 = .ok (.ishl, 1) := by decide +kernel
theorem dX11_availables_29 : decode cX11_availables 29 = .ok (.goto 4, 3) := by decide +kernel
theorem dX11_availables_32 : decode cX11_availables 32 = .ok (.iconst 0, 1) := by decide +kernel
theorem dX11_availables_33 : decode cX11_availables 33 = .ok (.ior, 1) := by decide +kernel
theorem dX11_availables_34 : decode cX11_availables 34 = .ok (.istore_n 2, 1) := by decide +kernel
theorem dX11_availables_35 : decode cX11_availables 35 = .ok (.iinc 3 1, 3) := by decide +kernel
theorem dX11_availables_38 : decode cX11_availables 38 = .ok (.goto (-34), 3) := by decide +kernel
theorem dX11_availables_41 : decode cX11_availables 41 = .ok (.iload_n 2, 1) := by decide +kernel
theorem dX11_availables_42 : decode cX11_availables 42 = .ok (.ireturn, 1) := by decide +kernel
theorem dX11_choosesTarget_0 : decode cX11_choosesTarget 0 = .ok (.sipush 231, 3) := by decide +kernel
theorem dX11_choosesTarget_3 : decode cX11_choosesTarget 3 = .ok (.bipush 58, 2) := by decide +kernel
theorem dX11_choosesTarget_5 : decode cX11_choosesTarget 5 = .ok (.iload_n 1, 1) := by decide +kernel
theorem dX11_choosesTarget_6 : decode cX11_choosesTarget 6 = .ok (.imul, 1) := by decide +kernel
theorem dX11_choosesTarget_7 : decode cX11_choosesTarget 7 = .ok (.iadd, 1) := by decide +kernel
theorem dX11_choosesTarget_8 : decode cX11_choosesTarget 8 = .ok (.bipush 44, 2) := by decide +kernel
theorem dX11_choosesTarget_10 : decode cX11_choosesTarget 10 = .ok (.iadd, 1) := by decide +kernel
theorem dX11_choosesTarget_11 : decode cX11_choosesTarget 11 = .ok (.istore_n 2, 1) := by decide +kernel
theorem dX11_choosesTarget_12 : decode cX11_choosesTarget 12 = .ok (.iconst (-1), 1) := by decide +kernel
theorem dX11_choosesTarget_13 : decode cX11_choosesTarget 13 = .ok (.istore_n 3, 1) := by decide +kernel
theorem dX11_choosesTarget_14 : decode cX11_choosesTarget 14 = .ok (.iconst 0, 1) := by decide +kernel
theorem dX11_choosesTarget_15 : decode cX11_choosesTarget 15 = .ok (.istore 4, 2) := by decide +kernel
theorem dX11_choosesTarget_17 : decode cX11_choosesTarget 17 = .ok (.iconst 0, 1) := by decide +kernel
theorem dX11_choosesTarget_18 : decode cX11_choosesTarget 18 = .ok (.istore 5, 2) := by decide +kernel
theorem dX11_choosesTarget_20 : decode cX11_choosesTarget 20 = .ok (.iload 5, 2) := by decide +kernel
theorem dX11_choosesTarget_22 : decode cX11_choosesTarget 22 = .ok (.aload_n 0, 1) := by decide +kernel
theorem dX11_choosesTarget_23 : decode cX11_choosesTarget 23 = .ok (.getfield 9, 3) := by decide +kernel
theorem dX11_choosesTarget_26 : decode cX11_choosesTarget 26 = .ok (.sipush 231, 3) := by decide +kernel
theorem dX11_choosesTarget_29 : decode cX11_choosesTarget 29 = .ok (.bipush 58, 2) := by decide +kernel
theorem dX11_choosesTarget_31 : decode cX11_choosesTarget 31 = .ok (.iload_n 1, 1) := by decide +kernel
theorem dX11_choosesTarget_32 : decode cX11_choosesTarget 32 = .ok (.imul, 1) := by decide +kernel
theorem dX11_choosesTarget_33 : decode cX11_choosesTarget 33 = .ok (.iadd, 1) := by decide +kernel
theorem dX11_choosesTarget_34 : decode cX11_choosesTarget 34 = .ok (.bipush 43, 2) := by decide +kernel
theorem dX11_choosesTarget_36 : decode cX11_choosesTarget 36 = .ok (.iadd, 1) := by decide +kernel
theorem dX11_choosesTarget_37 : decode cX11_choosesTarget 37 = .ok (.iaload, 1) := by decide +kernel
theorem dX11_choosesTarget_38 : decode cX11_choosesTarget 38 = .ok (.if_icmp .ge 100, 3) := by decide +kernel
theorem dX11_choosesTarget_41 : decode cX11_choosesTarget 41 = .ok (.iload_n 2, 1) := by decide +kernel
theorem dX11_choosesTarget_42 : decode cX11_choosesTarget 42 = .ok (.iconst 4, 1) := by decide +kernel
theorem dX11_choosesTarget_43 : decode cX11_choosesTarget 43 = .ok (.iload 5, 2) := by decide +kernel
theorem dX11_choosesTarget_45 : decode cX11_choosesTarget 45 = .ok (.imul, 1) := by decide +kernel
theorem dX11_choosesTarget_46 : decode cX11_choosesTarget 46 = .ok (.iadd, 1) := by decide +kernel
theorem dX11_choosesTarget_47 : decode cX11_choosesTarget 47 = .ok (.istore 6, 2) := by decide +kernel
theorem dX11_choosesTarget_49 : decode cX11_choosesTarget 49 = .ok (.aload_n 0, 1) := by decide +kernel
theorem dX11_choosesTarget_50 : decode cX11_choosesTarget 50 = .ok (.aload_n 0, 1) := by decide +kernel
theorem dX11_choosesTarget_51 : decode cX11_choosesTarget 51 = .ok (.getfield 9, 3) := by decide +kernel
theorem dX11_choosesTarget_54 : decode cX11_choosesTarget 54 = .ok (.iload 6, 2) := by decide +kernel
theorem dX11_choosesTarget_56 : decode cX11_choosesTarget 56 = .ok (.iaload, 1) := by decide +kernel
theorem dX11_choosesTarget_57 : decode cX11_choosesTarget 57 = .ok (.invokevirtual 127, 3) := by decide +kernel
theorem dX11_choosesTarget_60 : decode cX11_choosesTarget 60 = .ok (.ifCond .ne 6, 3) := by decide +kernel
theorem dX11_choosesTarget_63 : decode cX11_choosesTarget 63 = .ok (.goto 69, 3) := by decide +kernel
theorem dX11_choosesTarget_66 : decode cX11_choosesTarget 66 = .ok (.aload_n 0, 1) := by decide +kernel
theorem dX11_choosesTarget_67 : decode cX11_choosesTarget 67 = .ok (.getfield 9, 3) := by decide +kernel
theorem dX11_choosesTarget_70 : decode cX11_choosesTarget 70 = .ok (.iload 6, 2) := by decide +kernel
theorem dX11_choosesTarget_72 : decode cX11_choosesTarget 72 = .ok (.iconst 2, 1) := by decide +kernel
theorem dX11_choosesTarget_73 : decode cX11_choosesTarget 73 = .ok (.iadd, 1) := by decide +kernel
theorem dX11_choosesTarget_74 : decode cX11_choosesTarget 74 = .ok (.dup2, 1) := by decide +kernel
theorem dX11_choosesTarget_75 : decode cX11_choosesTarget 75 = .ok (.iaload, 1) := by decide +kernel
theorem dX11_choosesTarget_76 : decode cX11_choosesTarget 76 = .ok (.aload_n 0, 1) := by decide +kernel
theorem dX11_choosesTarget_77 : decode cX11_choosesTarget 77 = .ok (.getfield 9, 3) := by decide +kernel
theorem dX11_choosesTarget_80 : decode cX11_choosesTarget 80 = .ok (.iload 6, 2) := by decide +kernel
theorem dX11_choosesTarget_82 : decode cX11_choosesTarget 82 = .ok (.iconst 1, 1) := by decide +kernel
theorem dX11_choosesTarget_83 : decode cX11_choosesTarget 83 = .ok (.iadd, 1) := by decide +kernel
theorem dX11_choosesTarget_84 : decode cX11_choosesTarget 84 = .ok (.iaload, 1) := by decide +kernel
theorem dX11_choosesTarget_85 : decode cX11_choosesTarget 85 = .ok (.iadd, 1) := by decide +kernel
theorem dX11_choosesTarget_86 : decode cX11_choosesTarget 86 = .ok (.iastore, 1) := by decide +kernel
theorem dX11_choosesTarget_87 : decode cX11_choosesTarget 87 = .ok (.iload 4, 2) := by decide +kernel
theorem dX11_choosesTarget_89 : decode cX11_choosesTarget 89 = .ok (.aload_n 0, 1) := by decide +kernel
theorem dX11_choosesTarget_90 : decode cX11_choosesTarget 90 = .ok (.getfield 9, 3) := by decide +kernel
theorem dX11_choosesTarget_93 : decode cX11_choosesTarget 93 = .ok (.iload 6, 2) := by decide +kernel
theorem dX11_choosesTarget_95 : decode cX11_choosesTarget 95 = .ok (.iconst 1, 1) := by decide +kernel
theorem dX11_choosesTarget_96 : decode cX11_choosesTarget 96 = .ok (.iadd, 1) := by decide +kernel
theorem dX11_choosesTarget_97 : decode cX11_choosesTarget 97 = .ok (.iaload, 1) := by decide +kernel
theorem dX11_choosesTarget_98 : decode cX11_choosesTarget 98 = .ok (.iadd, 1) := by decide +kernel
theorem dX11_choosesTarget_99 : decode cX11_choosesTarget 99 = .ok (.istore 4, 2) := by decide +kernel
theorem dX11_choosesTarget_101 : decode cX11_choosesTarget 101 = .ok (.iload_n 3, 1) := by decide +kernel
theorem dX11_choosesTarget_102 : decode cX11_choosesTarget 102 = .ok (.ifCond .lt 27, 3) := by decide +kernel
theorem dX11_choosesTarget_105 : decode cX11_choosesTarget 105 = .ok (.aload_n 0, 1) := by decide +kernel
theorem dX11_choosesTarget_106 : decode cX11_choosesTarget 106 = .ok (.getfield 9, 3) := by decide +kernel
theorem dX11_choosesTarget_109 : decode cX11_choosesTarget 109 = .ok (.iload 6, 2) := by decide +kernel
theorem dX11_choosesTarget_111 : decode cX11_choosesTarget 111 = .ok (.iconst 2, 1) := by decide +kernel
theorem dX11_choosesTarget_112 : decode cX11_choosesTarget 112 = .ok (.iadd, 1) := by decide +kernel
theorem dX11_choosesTarget_113 : decode cX11_choosesTarget 113 = .ok (.iaload, 1) := by decide +kernel
theorem dX11_choosesTarget_114 : decode cX11_choosesTarget 114 = .ok (.aload_n 0, 1) := by decide +kernel
theorem dX11_choosesTarget_115 : decode cX11_choosesTarget 115 = .ok (.getfield 9, 3) := by decide +kernel
theorem dX11_choosesTarget_118 : decode cX11_choosesTarget 118 = .ok (.iload_n 2, 1) := by decide +kernel
theorem dX11_choosesTarget_119 : decode cX11_choosesTarget 119 = .ok (.iconst 4, 1) := by decide +kernel
theorem dX11_choosesTarget_120 : decode cX11_choosesTarget 120 = .ok (.iload_n 3, 1) := by decide +kernel
theorem dX11_choosesTarget_121 : decode cX11_choosesTarget 121 = .ok (.imul, 1) := by decide +kernel
theorem dX11_choosesTarget_122 : decode cX11_choosesTarget 122 = .ok (.iadd, 1) := by decide +kernel
theorem dX11_choosesTarget_123 : decode cX11_choosesTarget 123 = .ok (.iconst 2, 1) := by decide +kernel
theorem dX11_choosesTarget_124 : decode cX11_choosesTarget 124 = .ok (.iadd, 1) := by decide +kernel
theorem dX11_choosesTarget_125 : decode cX11_choosesTarget 125 = .ok (.iaload, 1) := by decide +kernel
theorem dX11_choosesTarget_126 : decode cX11_choosesTarget 126 = .ok (.if_icmp .le 6, 3) := by decide +kernel
theorem dX11_choosesTarget_129 : decode cX11_choosesTarget 129 = .ok (.iload 5, 2) := by decide +kernel
theorem dX11_choosesTarget_131 : decode cX11_choosesTarget 131 = .ok (.istore_n 3, 1) := by decide +kernel
theorem dX11_choosesTarget_132 : decode cX11_choosesTarget 132 = .ok (.iinc 5 1, 3) := by decide +kernel
theorem dX11_choosesTarget_135 : decode cX11_choosesTarget 135 = .ok (.goto (-115), 3) := by decide +kernel
theorem dX11_choosesTarget_138 : decode cX11_choosesTarget 138 = .ok (.iload_n 3, 1) := by decide +kernel
theorem dX11_choosesTarget_139 : decode cX11_choosesTarget 139 = .ok (.ifCond .ge 5, 3) := by decide +kernel
theorem dX11_choosesTarget_142 : decode cX11_choosesTarget 142 = .ok (.iconst (-1), 1) := by decide +kernel
theorem dX11_choosesTarget_143 : decode cX11_choosesTarget 143 = .ok (.ireturn, 1) := by decide +kernel
theorem dX11_choosesTarget_144 : decode cX11_choosesTarget 144 = .ok (.aload_n 0, 1) := by decide +kernel
theorem dX11_choosesTarget_145 : decode cX11_choosesTarget 145 = .ok (.getfield 9, 3) := by decide +kernel
theorem dX11_choosesTarget_148 : decode cX11_choosesTarget 148 = .ok (.iload_n 2, 1) := by decide +kernel
theorem dX11_choosesTarget_149 : decode cX11_choosesTarget 149 = .ok (.iconst 4, 1) := by decide +kernel
theorem dX11_choosesTarget_150 : decode cX11_choosesTarget 150 = .ok (.iload_n 3, 1) := by decide +kernel
theorem dX11_choosesTarget_151 : decode cX11_choosesTarget 151 = .ok (.imul, 1) := by decide +kernel
theorem dX11_choosesTarget_152 : decode cX11_choosesTarget 152 = .ok (.iadd, 1) := by decide +kernel
theorem dX11_choosesTarget_153 : decode cX11_choosesTarget 153 = .ok (.iconst 2, 1) := by decide +kernel
theorem dX11_choosesTarget_154 : decode cX11_choosesTarget 154 = .ok (.iadd, 1) := by decide +kernel
theorem dX11_choosesTarget_155 : decode cX11_choosesTarget 155 = .ok (.dup2, 1) := by decide +kernel
theorem dX11_choosesTarget_156 : decode cX11_choosesTarget 156 = .ok (.iaload, 1) := by decide +kernel
theorem dX11_choosesTarget_157 : decode cX11_choosesTarget 157 = .ok (.iload 4, 2) := by decide +kernel
theorem dX11_choosesTarget_159 : decode cX11_choosesTarget 159 = .ok (.isub, 1) := by decide +kernel
theorem dX11_choosesTarget_160 : decode cX11_choosesTarget 160 = .ok (.iastore, 1) := by decide +kernel
theorem dX11_choosesTarget_161 : decode cX11_choosesTarget 161 = .ok (.aload_n 0, 1) := by decide +kernel
theorem dX11_choosesTarget_162 : decode cX11_choosesTarget 162 = .ok (.getfield 9, 3) := by decide +kernel
theorem dX11_choosesTarget_165 : decode cX11_choosesTarget 165 = .ok (.iload_n 2, 1) := by decide +kernel
theorem dX11_choosesTarget_166 : decode cX11_choosesTarget 166 = .ok (.iconst 4, 1) := by decide +kernel
theorem dX11_choosesTarget_167 : decode cX11_choosesTarget 167 = .ok (.iload_n 3, 1) := by decide +kernel
theorem dX11_choosesTarget_168 : decode cX11_choosesTarget 168 = .ok (.imul, 1) := by decide +kernel
theorem dX11_choosesTarget_169 : decode cX11_choosesTarget 169 = .ok (.iadd, 1) := by decide +kernel
theorem dX11_choosesTarget_170 : decode cX11_choosesTarget 170 = .ok (.iconst 3, 1) := by decide +kernel
theorem dX11_choosesTarget_171 : decode cX11_choosesTarget 171 = .ok (.iadd, 1) := by decide +kernel
theorem dX11_choosesTarget_172 : decode cX11_choosesTarget 172 = .ok (.dup2, 1) := by decide +kernel
theorem dX11_choosesTarget_173 : decode cX11_choosesTarget 173 = .ok (.iaload, 1) := by decide +kernel
theorem dX11_choosesTarget_174 : decode cX11_choosesTarget 174 = .ok (.iconst 1, 1) := by decide +kernel
theorem dX11_choosesTarget_175 : decode cX11_choosesTarget 175 = .ok (.iadd, 1) := by decide +kernel
theorem dX11_choosesTarget_176 : decode cX11_choosesTarget 176 = .ok (.iastore, 1) := by decide +kernel
theorem dX11_choosesTarget_177 : decode cX11_choosesTarget 177 = .ok (.iload_n 3, 1) := by decide +kernel
theorem dX11_choosesTarget_178 : decode cX11_choosesTarget 178 = .ok (.ireturn, 1) := by decide +kernel
theorem dX11_byWeights_0 : decode cX11_byWeights 0 = .ok (.iconst (-1), 1) := by decide +kernel
theorem dX11_byWeights_1 : decode cX11_byWeights 1 = .ok (.istore_n 2, 1) := by decide +kernel
theorem dX11_byWeights_2 : decode cX11_byWeights 2 = .ok (.iconst 0, 1) := by decide +kernel
theorem dX11_byWeights_3 : decode cX11_byWeights 3 = .ok (.istore_n 3, 1) := by decide +kernel
theorem dX11_byWeights_4 : decode cX11_byWeights 4 = .ok (.iconst 0, 1) := by decide +kernel
theorem dX11_byWeights_5 : decode cX11_byWeights 5 = .ok (.istore 4, 2) := by decide +kernel
theorem dX11_byWeights_7 : decode cX11_byWeights 7 = .ok (.iload 4, 2) := by decide +kernel
theorem dX11_byWeights_9 : decode cX11_byWeights 9 = .ok (.aload_n 0, 1) := by decide +kernel
theorem dX11_byWeights_10 : decode cX11_byWeights 10 = .ok (.getfield 9, 3) := by decide +kernel
theorem dX11_byWeights_13 : decode cX11_byWeights 13 = .ok (.sipush 144, 3) := by decide +kernel
theorem dX11_byWeights_16 : decode cX11_byWeights 16 = .ok (.iaload, 1) := by decide +kernel
theorem dX11_byWeights_17 : decode cX11_byWeights 17 = .ok (.if_icmp .ge 76, 3) := by decide +kernel
theorem dX11_byWeights_20 : decode cX11_byWeights 20 = .ok (.iload_n 1, 1) := by decide +kernel
theorem dX11_byWeights_21 : decode cX11_byWeights 21 = .ok (.iload 4, 2) := by decide +kernel
theorem dX11_byWeights_23 : decode cX11_byWeights 23 = .ok (.ishr, 1) := by decide +kernel
theorem dX11_byWeights_24 : decode cX11_byWeights 24 = .ok (.iconst 1, 1) := by decide +kernel
theorem dX11_byWeights_25 : decode cX11_byWeights 25 = .ok (.iand, 1) := by decide +kernel
theorem dX11_byWeights_26 : decode cX11_byWeights 26 = .ok (.ifCond .ne 6, 3) := by decide +kernel
theorem dX11_byWeights_29 : decode cX11_byWeights 29 = .ok (.goto 58, 3) := by decide +kernel
theorem dX11_byWeights_32 : decode cX11_byWeights 32 = .ok (.aload_n 0, 1) := by decide +kernel
theorem dX11_byWeights_33 : decode cX11_byWeights 33 = .ok (.iload 4, 2) := by decide +kernel
theorem dX11_byWeights_35 : decode cX11_byWeights 35 = .ok (.iconst 4, 1) := by decide +kernel
theorem dX11_byWeights_36 : decode cX11_byWeights 36 = .ok (.aload_n 0, 1) := by decide +kernel
theorem dX11_byWeights_37 : decode cX11_byWeights 37 = .ok (.iload 4, 2) := by decide +kernel
theorem dX11_byWeights_39 : decode cX11_byWeights 39 = .ok (.iconst 4, 1) := by decide +kernel
theorem dX11_byWeights_40 : decode cX11_byWeights 40 = .ok (.invokevirtual 66, 3) := by decide +kernel
theorem dX11_byWeights_43 : decode cX11_byWeights 43 = .ok (.aload_n 0, 1) := by decide +kernel
theorem dX11_byWeights_44 : decode cX11_byWeights 44 = .ok (.iload 4, 2) := by decide +kernel
theorem dX11_byWeights_46 : decode cX11_byWeights 46 = .ok (.iconst 2, 1) := by decide +kernel
theorem dX11_byWeights_47 : decode cX11_byWeights 47 = .ok (.invokevirtual 66, 3) := by decide +kernel
theorem dX11_byWeights_50 : decode cX11_byWeights 50 = .ok (.iadd, 1) := by decide +kernel
theorem dX11_byWeights_51 : decode cX11_byWeights 51 = .ok (.invokevirtual 58, 3) := by decide +kernel
theorem dX11_byWeights_54 : decode cX11_byWeights 54 = .ok (.iload_n 3, 1) := by decide +kernel
theorem dX11_byWeights_55 : decode cX11_byWeights 55 = .ok (.aload_n 0, 1) := by decide +kernel
theorem dX11_byWeights_56 : decode cX11_byWeights 56 = .ok (.iload 4, 2) := by decide +kernel
theorem dX11_byWeights_58 : decode cX11_byWeights 58 = .ok (.iconst 2, 1) := by decide +kernel
theorem dX11_byWeights_59 : decode cX11_byWeights 59 = .ok (.invokevirtual 66, 3) := by decide +kernel
theorem dX11_byWeights_62 : decode cX11_byWeights 62 = .ok (.iadd, 1) := by decide +kernel
theorem dX11_byWeights_63 : decode cX11_byWeights 63 = .ok (.istore_n 3, 1) := by decide +kernel
theorem dX11_byWeights_64 : decode cX11_byWeights 64 = .ok (.iload_n 2, 1) := by decide +kernel
theorem dX11_byWeights_65 : decode cX11_byWeights 65 = .ok (.ifCond .lt 19, 3) := by decide +kernel
theorem dX11_byWeights_68 : decode cX11_byWeights 68 = .ok (.aload_n 0, 1) := by decide +kernel
theorem dX11_byWeights_69 : decode cX11_byWeights 69 = .ok (.iload 4, 2) := by decide +kernel
theorem dX11_byWeights_71 : decode cX11_byWeights 71 = .ok (.iconst 4, 1) := by decide +kernel
theorem dX11_byWeights_72 : decode cX11_byWeights 72 = .ok (.invokevirtual 66, 3) := by decide +kernel
theorem dX11_byWeights_75 : decode cX11_byWeights 75 = .ok (.aload_n 0, 1) := by decide +kernel
theorem dX11_byWeights_76 : decode cX11_byWeights 76 = .ok (.iload_n 2, 1) := by decide +kernel
theorem dX11_byWeights_77 : decode cX11_byWeights 77 = .ok (.iconst 4, 1) := by decide +kernel
theorem dX11_byWeights_78 : decode cX11_byWeights 78 = .ok (.invokevirtual 66, 3) := by decide +kernel
theorem dX11_byWeights_81 : decode cX11_byWeights 81 = .ok (.if_icmp .le 6, 3) := by decide +kernel
theorem dX11_byWeights_84 : decode cX11_byWeights 84 = .ok (.iload 4, 2) := by decide +kernel
theorem dX11_byWeights_86 : decode cX11_byWeights 86 = .ok (.istore_n 2, 1) := by decide +kernel
theorem dX11_byWeights_87 : decode cX11_byWeights 87 = .ok (.iinc 4 1, 3) := by decide +kernel
theorem dX11_byWeights_90 : decode cX11_byWeights 90 = .ok (.goto (-83), 3) := by decide +kernel
theorem dX11_byWeights_93 : decode cX11_byWeights 93 = .ok (.aload_n 0, 1) := by decide +kernel
theorem dX11_byWeights_94 : decode cX11_byWeights 94 = .ok (.iload_n 2, 1) := by decide +kernel
theorem dX11_byWeights_95 : decode cX11_byWeights 95 = .ok (.iconst 4, 1) := by decide +kernel
theorem dX11_byWeights_96 : decode cX11_byWeights 96 = .ok (.aload_n 0, 1) := by decide +kernel
theorem dX11_byWeights_97 : decode cX11_byWeights 97 = .ok (.iload_n 2, 1) := by decide +kernel
theorem dX11_byWeights_98 : decode cX11_byWeights 98 = .ok (.iconst 4, 1) := by decide +kernel
theorem dX11_byWeights_99 : decode cX11_byWeights 99 = .ok (.invokevirtual 66, 3) := by decide +kernel
theorem dX11_byWeights_102 : decode cX11_byWeights 102 = .ok (.iload_n 3, 1) := by decide +kernel
theorem dX11_byWeights_103 : decode cX11_byWeights 103 = .ok (.isub, 1) := by decide +kernel
theorem dX11_byWeights_104 : decode cX11_byWeights 104 = .ok (.invokevirtual 58, 3) := by decide +kernel
theorem dX11_byWeights_107 : decode cX11_byWeights 107 = .ok (.iload_n 2, 1) := by decide +kernel
theorem dX11_byWeights_108 : decode cX11_byWeights 108 = .ok (.ireturn, 1) := by decide +kernel
theorem dX11_leastUsed_0 : decode cX11_leastUsed 0 = .ok (.iconst (-1), 1) := by decide +kernel
theorem dX11_leastUsed_1 : decode cX11_leastUsed 1 = .ok (.istore_n 2, 1) := by decide +kernel
theorem dX11_leastUsed_2 : decode cX11_leastUsed 2 = .ok (.iconst 0, 1) := by decide +kernel
theorem dX11_leastUsed_3 : decode cX11_leastUsed 3 = .ok (.istore_n 3, 1) := by decide +kernel
theorem dX11_leastUsed_4 : decode cX11_leastUsed 4 = .ok (.iload_n 3, 1) := by decide +kernel
theorem dX11_leastUsed_5 : decode cX11_leastUsed 5 = .ok (.aload_n 0, 1) := by decide +kernel
theorem dX11_leastUsed_6 : decode cX11_leastUsed 6 = .ok (.getfield 9, 3) := by decide +kernel
theorem dX11_leastUsed_9 : decode cX11_leastUsed 9 = .ok (.sipush 144, 3) := by decide +kernel
theorem dX11_leastUsed_12 : decode cX11_leastUsed 12 = .ok (.iaload, 1) := by decide +kernel
theorem dX11_leastUsed_13 : decode cX11_leastUsed 13 = .ok (.if_icmp .ge 53, 3) := by decide +kernel
theorem dX11_leastUsed_16 : decode cX11_leastUsed 16 = .ok (.iload_n 1, 1) := by decide +kernel
theorem dX11_leastUsed_17 : decode cX11_leastUsed 17 = .ok (.iload_n 3, 1) := by decide +kernel
theorem dX11_leastUsed_18 : decode cX11_leastUsed 18 = .ok (.ishr, 1) := by decide +kernel
theorem dX11_leastUsed_19 : decode cX11_leastUsed 19 = .ok (.iconst 1, 1) := by decide +kernel
theorem dX11_leastUsed_20 : decode cX11_leastUsed 20 = .ok (.iand, 1) := by decide +kernel
theorem dX11_leastUsed_21 : decode cX11_leastUsed 21 = .ok (.iconst 1, 1) := by decide +kernel
theorem dX11_leastUsed_22 : decode cX11_leastUsed 22 = .ok (.if_icmp .ne 38, 3) := by decide +kernel
theorem dX11_leastUsed_25 : decode cX11_leastUsed 25 = .ok (.iload_n 2, 1) := by decide +kernel
theorem dX11_leastUsed_26 : decode cX11_leastUsed 26 = .ok (.ifCond .lt 32, 3) := by decide +kernel
theorem dX11_leastUsed_29 : decode cX11_leastUsed 29 = .ok (.aload_n 0, 1) := by decide +kernel
theorem dX11_leastUsed_30 : decode cX11_leastUsed 30 = .ok (.iload_n 3, 1) := by decide +kernel
theorem dX11_leastUsed_31 : decode cX11_leastUsed 31 = .ok (.iconst 5, 1) := by decide +kernel
theorem dX11_leastUsed_32 : decode cX11_leastUsed 32 = .ok (.invokevirtual 66, 3) := by decide +kernel
theorem dX11_leastUsed_35 : decode cX11_leastUsed 35 = .ok (.aload_n 0, 1) := by decide +kernel
theorem dX11_leastUsed_36 : decode cX11_leastUsed 36 = .ok (.iload_n 2, 1) := by decide +kernel
theorem dX11_leastUsed_37 : decode cX11_leastUsed 37 = .ok (.iconst 2, 1) := by decide +kernel
theorem dX11_leastUsed_38 : decode cX11_leastUsed 38 = .ok (.invokevirtual 66, 3) := by decide +kernel
theorem dX11_leastUsed_41 : decode cX11_leastUsed 41 = .ok (.imul, 1) := by decide +kernel
theorem dX11_leastUsed_42 : decode cX11_leastUsed 42 = .ok (.aload_n 0, 1) := by decide +kernel
theorem dX11_leastUsed_43 : decode cX11_leastUsed 43 = .ok (.iload_n 2, 1) := by decide +kernel
theorem dX11_leastUsed_44 : decode cX11_leastUsed 44 = .ok (.iconst 5, 1) := by decide +kernel
theorem dX11_leastUsed_45 : decode cX11_leastUsed 45 = .ok (.invokevirtual 66, 3) := by decide +kernel
theorem dX11_leastUsed_48 : decode cX11_leastUsed 48 = .ok (.aload_n 0, 1) := by decide +kernel
theorem dX11_leastUsed_49 : decode cX11_leastUsed 49 = .ok (.iload_n 3, 1) := by decide +kernel
theorem dX11_leastUsed_50 : decode cX11_leastUsed 50 = .ok (.iconst 2, 1) := by decide +kernel
theorem dX11_leastUsed_51 : decode cX11_leastUsed 51 = .ok (.invokevirtual 66, 3) := by decide +kernel
theorem dX11_leastUsed_54 : decode cX11_leastUsed 54 = .ok (.imul, 1) := by decide +kernel
theorem dX11_leastUsed_55 : decode cX11_leastUsed 55 = .ok (.if_icmp .ge 5, 3) := by decide +kernel
theorem dX11_leastUsed_58 : decode cX11_leastUsed 58 = .ok (.iload_n 3, 1) := by decide +kernel
theorem dX11_leastUsed_59 : decode cX11_leastUsed 59 = .ok (.istore_n 2, 1) := by decide +kernel
theorem dX11_leastUsed_60 : decode cX11_leastUsed 60 = .ok (.iinc 3 1, 3) := by decide +kernel
theorem dX11_leastUsed_63 : decode cX11_leastUsed 63 = .ok (.goto (-59), 3) := by decide +kernel
theorem dX11_leastUsed_66 : decode cX11_leastUsed 66 = .ok (.iload_n 2, 1) := by decide +kernel
theorem dX11_leastUsed_67 : decode cX11_leastUsed 67 = .ok (.ireturn, 1) := by decide +kernel
theorem dX11_weights_0 : decode cX11_weights 0 = .ok (.iconst 0, 1) := by decide +kernel
theorem dX11_weights_1 : decode cX11_weights 1 = .ok (.istore_n 2, 1) := by decide +kernel
theorem dX11_weights_2 : decode cX11_weights 2 = .ok (.iconst 0, 1) := by decide +kernel
theorem dX11_weights_3 : decode cX11_weights 3 = .ok (.istore_n 3, 1) := by decide +kernel
theorem dX11_weights_4 : decode cX11_weights 4 = .ok (.iload_n 3, 1) := by decide +kernel
theorem dX11_weights_5 : decode cX11_weights 5 = .ok (.aload_n 0, 1) := by decide +kernel
theorem dX11_weights_6 : decode cX11_weights 6 = .ok (.getfield 9, 3) := by decide +kernel
theorem dX11_weights_9 : decode cX11_weights 9 = .ok (.sipush 144, 3) := by decide +kernel
theorem dX11_weights_12 : decode cX11_weights 12 = .ok (.iaload, 1) := by decide +kernel
theorem dX11_weights_13 : decode cX11_weights 13 = .ok (.if_icmp .ge 31, 3) := by decide +kernel
theorem dX11_weights_16 : decode cX11_weights 16 = .ok (.iload_n 2, 1) := by decide +kernel
theorem dX11_weights_17 : decode cX11_weights 17 = .ok (.iload_n 1, 1) := by decide +kernel
theorem dX11_weights_18 : decode cX11_weights 18 = .ok (.iload_n 3, 1) := by decide +kernel
theorem dX11_weights_19 : decode cX11_weights 19 = .ok (.ishr, 1) := by decide +kernel
theorem dX11_weights_20 : decode cX11_weights 20 = .ok (.iconst 1, 1) := by decide +kernel
theorem dX11_weights_21 : decode cX11_weights 21 = .ok (.iand, 1) := by decide +kernel
theorem dX11_weights_22 : decode cX11_weights 22 = .ok (.iconst 1, 1) := by decide +kernel
theorem dX11_weights_23 : decode cX11_weights 23 = .ok (.if_icmp .ne 12, 3) := by decide +kernel
theorem dX11_weights_26 : decode cX11_weights 26 = .ok (.aload_n 0, 1) := by decide +kernel
theorem dX11_weights_27 : decode cX11_weights 27 = .ok (.iload_n 3, 1) := by decide +kernel
theorem dX11_weights_28 : decode cX11_weights 28 = .ok (.iconst 2, 1) := by decide +kernel
theorem dX11_weights_29 : decode cX11_weights 29 = .ok (.invokevirtual 66, 3) := by decide +kernel
theorem dX11_weights_32 : decode cX11_weights 32 = .ok (.goto 4, 3) := by decide +kernel
theorem dX11_weights_35 : decode cX11_weights 35 = .ok (.iconst 0, 1) := by decide +kernel
theorem dX11_weights_36 : decode cX11_weights 36 = .ok (.iadd, 1) := by decide +kernel
theorem dX11_weights_37 : decode cX11_weights 37 = .ok (.istore_n 2, 1) := by decide +kernel
theorem dX11_weights_38 : decode cX11_weights 38 = .ok (.iinc 3 1, 3) := by decide +kernel
theorem dX11_weights_41 : decode cX11_weights 41 = .ok (.goto (-37), 3) := by decide +kernel
theorem dX11_weights_44 : decode cX11_weights 44 = .ok (.iload_n 2, 1) := by decide +kernel
theorem dX11_weights_45 : decode cX11_weights 45 = .ok (.ireturn, 1) := by decide +kernel
theorem dX11_narrowed_0 : decode cX11_narrowed 0 = .ok (.iconst 0, 1) := by decide +kernel
theorem dX11_narrowed_1 : decode cX11_narrowed 1 = .ok (.istore 4, 2) := by decide +kernel
theorem dX11_narrowed_3 : decode cX11_narrowed 3 = .ok (.iconst 0, 1) := by decide +kernel
theorem dX11_narrowed_4 : decode cX11_narrowed 4 = .ok (.istore 5, 2) := by decide +kernel
theorem dX11_narrowed_6 : decode cX11_narrowed 6 = .ok (.iconst 0, 1) := by decide +kernel
theorem dX11_narrowed_7 : decode cX11_narrowed 7 = .ok (.istore 6, 2) := by decide +kernel
theorem dX11_narrowed_9 : decode cX11_narrowed 9 = .ok (.iload 6, 2) := by decide +kernel
theorem dX11_narrowed_11 : decode cX11_narrowed 11 = .ok (.aload_n 0, 1) := by decide +kernel
theorem dX11_narrowed_12 : decode cX11_narrowed 12 = .ok (.getfield 9, 3) := by decide +kernel
theorem dX11_narrowed_15 : decode cX11_narrowed 15 = .ok (.sipush 144, 3) := by decide +kernel
theorem dX11_narrowed_18 : decode cX11_narrowed 18 = .ok (.iaload, 1) := by decide +kernel
theorem dX11_narrowed_19 : decode cX11_narrowed 19 = .ok (.if_icmp .ge 57, 3) := by decide +kernel
theorem dX11_narrowed_22 : decode cX11_narrowed 22 = .ok (.aload_n 0, 1) := by decide +kernel
theorem dX11_narrowed_23 : decode cX11_narrowed 23 = .ok (.iload 6, 2) := by decide +kernel
theorem dX11_narrowed_25 : decode cX11_narrowed 25 = .ok (.iconst 1, 1) := by decide +kernel
theorem dX11_narrowed_26 : decode cX11_narrowed 26 = .ok (.invokevirtual 66, 3) := by decide +kernel
theorem dX11_narrowed_29 : decode cX11_narrowed 29 = .ok (.iload_n 3, 1) := by decide +kernel
theorem dX11_narrowed_30 : decode cX11_narrowed 30 = .ok (.if_icmp .eq 6, 3) := by decide +kernel
theorem dX11_narrowed_33 : decode cX11_narrowed 33 = .ok (.goto 37, 3) := by decide +kernel
theorem dX11_narrowed_36 : decode cX11_narrowed 36 = .ok (.iload 4, 2) := by decide +kernel
theorem dX11_narrowed_38 : decode cX11_narrowed 38 = .ok (.iload_n 1, 1) := by decide +kernel
theorem dX11_narrowed_39 : decode cX11_narrowed 39 = .ok (.iconst 1, 1) := by decide +kernel
theorem dX11_narrowed_40 : decode cX11_narrowed 40 = .ok (.iload 6, 2) := by decide +kernel
theorem dX11_narrowed_42 : decode cX11_narrowed 42 = .ok (.ishl, 1) := by decide +kernel
theorem dX11_narrowed_43 : decode cX11_narrowed 43 = .ok (.iand, 1) := by decide +kernel
theorem dX11_narrowed_44 : decode cX11_narrowed 44 = .ok (.ior, 1) := by decide +kernel
theorem dX11_narrowed_45 : decode cX11_narrowed 45 = .ok (.istore 4, 2) := by decide +kernel
theorem dX11_narrowed_47 : decode cX11_narrowed 47 = .ok (.iload 5, 2) := by decide +kernel
theorem dX11_narrowed_49 : decode cX11_narrowed 49 = .ok (.aload_n 0, 1) := by decide +kernel
theorem dX11_narrowed_50 : decode cX11_narrowed 50 = .ok (.iload 6, 2) := by decide +kernel
theorem dX11_narrowed_52 : decode cX11_narrowed 52 = .ok (.iload_n 2, 1) := by decide +kernel
theorem dX11_narrowed_53 : decode cX11_narrowed 53 = .ok (.invokevirtual 121, 3) := by decide +kernel
theorem dX11_narrowed_56 : decode cX11_narrowed 56 = .ok (.ifCond .eq 10, 3) := by decide +kernel
theorem dX11_narrowed_59 : decode cX11_narrowed 59 = .ok (.iconst 1, 1) := by decide +kernel
theorem dX11_narrowed_60 : decode cX11_narrowed 60 = .ok (.iload 6, 2) := by decide +kernel
theorem dX11_narrowed_62 : decode cX11_narrowed 62 = .ok (.ishl, 1) := by decide +kernel
theorem dX11_narrowed_63 : decode cX11_narrowed 63 = .ok (.goto 4, 3) := by decide +kernel
theorem dX11_narrowed_66 : decode cX11_narrowed 66 = .ok (.iconst 0, 1) := by decide +kernel
theorem dX11_narrowed_67 : decode cX11_narrowed 67 = .ok (.ior, 1) := by decide +kernel
theorem dX11_narrowed_68 : decode cX11_narrowed 68 = .ok (.istore 5, 2) := by decide +kernel
theorem dX11_narrowed_70 : decode cX11_narrowed 70 = .ok (.iinc 6 1, 3) := by decide +kernel
theorem dX11_narrowed_73 : decode cX11_narrowed 73 = .ok (.goto (-64), 3) := by decide +kernel
theorem dX11_narrowed_76 : decode cX11_narrowed 76 = .ok (.iload 4, 2) := by decide +kernel
theorem dX11_narrowed_78 : decode cX11_narrowed 78 = .ok (.ifCond .eq 9, 3) := by decide +kernel
theorem dX11_narrowed_81 : decode cX11_narrowed 81 = .ok (.iload 4, 2) := by decide +kernel
theorem dX11_narrowed_83 : decode cX11_narrowed 83 = .ok (.iload_n 1, 1) := by decide +kernel
theorem dX11_narrowed_84 : decode cX11_narrowed 84 = .ok (.if_icmp .ne 5, 3) := by decide +kernel
theorem dX11_narrowed_87 : decode cX11_narrowed 87 = .ok (.iload_n 1, 1) := by decide +kernel
theorem dX11_narrowed_88 : decode cX11_narrowed 88 = .ok (.ireturn, 1) := by decide +kernel
theorem dX11_narrowed_89 : decode cX11_narrowed 89 = .ok (.aload_n 0, 1) := by decide +kernel
theorem dX11_narrowed_90 : decode cX11_narrowed 90 = .ok (.iload 4, 2) := by decide +kernel
theorem dX11_narrowed_92 : decode cX11_narrowed 92 = .ok (.invokevirtual 130, 3) := by decide +kernel
theorem dX11_narrowed_95 : decode cX11_narrowed 95 = .ok (.istore 6, 2) := by decide +kernel
theorem dX11_narrowed_97 : decode cX11_narrowed 97 = .ok (.aload_n 0, 1) := by decide +kernel
theorem dX11_narrowed_98 : decode cX11_narrowed 98 = .ok (.iload 5, 2) := by decide +kernel
theorem dX11_narrowed_100 : decode cX11_narrowed 100 = .ok (.invokevirtual 130, 3) := by decide +kernel
theorem dX11_narrowed_103 : decode cX11_narrowed 103 = .ok (.istore 7, 2) := by decide +kernel
theorem dX11_narrowed_105 : decode cX11_narrowed 105 = .ok (.aload_n 0, 1) := by decide +kernel
theorem dX11_narrowed_106 : decode cX11_narrowed 106 = .ok (.getfield 37, 3) := by decide +kernel
theorem dX11_narrowed_109 : decode cX11_narrowed 109 = .ok (.iconst 4, 1) := by decide +kernel
theorem dX11_narrowed_110 : decode cX11_narrowed 110 = .ok (.if_icmp .ne 7, 3) := by decide +kernel
theorem dX11_narrowed_113 : decode cX11_narrowed 113 = .ok (.iconst 1, 1) := by decide +kernel
theorem dX11_narrowed_114 : decode cX11_narrowed 114 = .ok (.goto 11, 3) := by decide +kernel
theorem dX11_narrowed_117 : decode cX11_narrowed 117 = .ok (.aload_n 0, 1) := by decide +kernel
theorem dX11_narrowed_118 : decode cX11_narrowed 118 = .ok (.getfield 9, 3) := by decide +kernel
theorem dX11_narrowed_121 : decode cX11_narrowed 121 = .ok (.sipush 229, 3) := by decide +kernel
theorem dX11_narrowed_124 : decode cX11_narrowed 124 = .ok (.iaload, 1) := by decide +kernel
theorem dX11_narrowed_125 : decode cX11_narrowed 125 = .ok (.istore 8, 2) := by decide +kernel
theorem dX11_narrowed_127 : decode cX11_narrowed 127 = .ok (.bipush 100, 2) := by decide +kernel
theorem dX11_narrowed_129 : decode cX11_narrowed 129 = .ok (.iload 6, 2) := by decide +kernel
theorem dX11_narrowed_131 : decode cX11_narrowed 131 = .ok (.imul, 1) := by decide +kernel
theorem dX11_narrowed_132 : decode cX11_narrowed 132 = .ok (.iload 8, 2) := by decide +kernel
theorem dX11_narrowed_134 : decode cX11_narrowed 134 = .ok (.iload 7, 2) := by decide +kernel
theorem dX11_narrowed_136 : decode cX11_narrowed 136 = .ok (.imul, 1) := by decide +kernel
theorem dX11_narrowed_137 : decode cX11_narrowed 137 = .ok (.if_icmp .lt 6, 3) := by decide +kernel
theorem dX11_narrowed_140 : decode cX11_narrowed 140 = .ok (.iload 4, 2) := by decide +kernel
theorem dX11_narrowed_142 : decode cX11_narrowed 142 = .ok (.ireturn, 1) := by decide +kernel
theorem dX11_narrowed_143 : decode cX11_narrowed 143 = .ok (.sipush 145, 3) := by decide +kernel
theorem dX11_narrowed_146 : decode cX11_narrowed 146 = .ok (.bipush 21, 2) := by decide +kernel
theorem dX11_narrowed_148 : decode cX11_narrowed 148 = .ok (.iload_n 2, 1) := by decide +kernel
theorem dX11_narrowed_149 : decode cX11_narrowed 149 = .ok (.imul, 1) := by decide +kernel
theorem dX11_narrowed_150 : decode cX11_narrowed 150 = .ok (.iadd, 1) := by decide +kernel
theorem dX11_narrowed_151 : decode cX11_narrowed 151 = .ok (.bipush 8, 2) := by decide +kernel
theorem dX11_narrowed_153 : decode cX11_narrowed 153 = .ok (.iadd, 1) := by decide +kernel
theorem dX11_narrowed_154 : decode cX11_narrowed 154 = .ok (.iload_n 3, 1) := by decide +kernel
theorem dX11_narrowed_155 : decode cX11_narrowed 155 = .ok (.iadd, 1) := by decide +kernel
theorem dX11_narrowed_156 : decode cX11_narrowed 156 = .ok (.istore 9, 2) := by decide +kernel
theorem dX11_narrowed_158 : decode cX11_narrowed 158 = .ok (.aload_n 0, 1) := by decide +kernel
theorem dX11_narrowed_159 : decode cX11_narrowed 159 = .ok (.getfield 9, 3) := by decide +kernel
theorem dX11_narrowed_162 : decode cX11_narrowed 162 = .ok (.iload 9, 2) := by decide +kernel
theorem dX11_narrowed_164 : decode cX11_narrowed 164 = .ok (.dup2, 1) := by decide +kernel
theorem dX11_narrowed_165 : decode cX11_narrowed 165 = .ok (.iaload, 1) := by decide +kernel
theorem dX11_narrowed_166 : decode cX11_narrowed 166 = .ok (.sipush 10000, 3) := by decide +kernel
theorem dX11_narrowed_169 : decode cX11_narrowed 169 = .ok (.iload 6, 2) := by decide +kernel
theorem dX11_narrowed_171 : decode cX11_narrowed 171 = .ok (.imul, 1) := by decide +kernel
theorem dX11_narrowed_172 : decode cX11_narrowed 172 = .ok (.iload 8, 2) := by decide +kernel
theorem dX11_narrowed_174 : decode cX11_narrowed 174 = .ok (.iload 7, 2) := by decide +kernel
theorem dX11_narrowed_176 : decode cX11_narrowed 176 = .ok (.imul, 1) := by decide +kernel
theorem dX11_narrowed_177 : decode cX11_narrowed 177 = .ok (.idiv, 1) := by decide +kernel
theorem dX11_narrowed_178 : decode cX11_narrowed 178 = .ok (.iadd, 1) := by decide +kernel
theorem dX11_narrowed_179 : decode cX11_narrowed 179 = .ok (.iastore, 1) := by decide +kernel
theorem dX11_narrowed_180 : decode cX11_narrowed 180 = .ok (.aload_n 0, 1) := by decide +kernel
theorem dX11_narrowed_181 : decode cX11_narrowed 181 = .ok (.getfield 9, 3) := by decide +kernel
theorem dX11_narrowed_184 : decode cX11_narrowed 184 = .ok (.iload 9, 2) := by decide +kernel
theorem dX11_narrowed_186 : decode cX11_narrowed 186 = .ok (.iaload, 1) := by decide +kernel
theorem dX11_narrowed_187 : decode cX11_narrowed 187 = .ok (.bipush 100, 2) := by decide +kernel
theorem dX11_narrowed_189 : decode cX11_narrowed 189 = .ok (.if_icmp .ge 10, 3) := by decide +kernel
theorem dX11_narrowed_192 : decode cX11_narrowed 192 = .ok (.iload_n 1, 1) := by decide +kernel
theorem dX11_narrowed_193 : decode cX11_narrowed 193 = .ok (.iload 4, 2) := by decide +kernel
theorem dX11_narrowed_195 : decode cX11_narrowed 195 = .ok (.iconst (-1), 1) := by decide +kernel
theorem dX11_narrowed_196 : decode cX11_narrowed 196 = .ok (.ixor, 1) := by decide +kernel
theorem dX11_narrowed_197 : decode cX11_narrowed 197 = .ok (.iand, 1) := by decide +kernel
theorem dX11_narrowed_198 : decode cX11_narrowed 198 = .ok (.ireturn, 1) := by decide +kernel
theorem dX11_narrowed_199 : decode cX11_narrowed 199 = .ok (.aload_n 0, 1) := by decide +kernel
theorem dX11_narrowed_200 : decode cX11_narrowed 200 = .ok (.getfield 9, 3) := by decide +kernel
theorem dX11_narrowed_203 : decode cX11_narrowed 203 = .ok (.iload 9, 2) := by decide +kernel
theorem dX11_narrowed_205 : decode cX11_narrowed 205 = .ok (.dup2, 1) := by decide +kernel
theorem dX11_narrowed_206 : decode cX11_narrowed 206 = .ok (.iaload, 1) := by decide +kernel
theorem dX11_narrowed_207 : decode cX11_narrowed 207 = .ok (.bipush 100, 2) := by decide +kernel
theorem dX11_narrowed_209 : decode cX11_narrowed 209 = .ok (.isub, 1) := by decide +kernel
theorem dX11_narrowed_210 : decode cX11_narrowed 210 = .ok (.iastore, 1) := by decide +kernel
theorem dX11_narrowed_211 : decode cX11_narrowed 211 = .ok (.iload 4, 2) := by decide +kernel
theorem dX11_narrowed_213 : decode cX11_narrowed 213 = .ok (.ireturn, 1) := by decide +kernel
theorem dX11_picks_0 : decode cX11_picks 0 = .ok (.aload_n 0, 1) := by decide +kernel
theorem dX11_picks_1 : decode cX11_picks 1 = .ok (.iload_n 1, 1) := by decide +kernel
theorem dX11_picks_2 : decode cX11_picks 2 = .ok (.iload_n 2, 1) := by decide +kernel
theorem dX11_picks_3 : decode cX11_picks 3 = .ok (.iload 4, 2) := by decide +kernel
theorem dX11_picks_5 : decode cX11_picks 5 = .ok (.invokevirtual 133, 3) := by decide +kernel
theorem dX11_picks_8 : decode cX11_picks 8 = .ok (.istore 5, 2) := by decide +kernel
theorem dX11_picks_10 : decode cX11_picks 10 = .ok (.sipush 145, 3) := by decide +kernel
theorem dX11_picks_13 : decode cX11_picks 13 = .ok (.bipush 21, 2) := by decide +kernel
theorem dX11_picks_15 : decode cX11_picks 15 = .ok (.iload_n 2, 1) := by decide +kernel
theorem dX11_picks_16 : decode cX11_picks 16 = .ok (.imul, 1) := by decide +kernel
theorem dX11_picks_17 : decode cX11_picks 17 = .ok (.iadd, 1) := by decide +kernel
theorem dX11_picks_18 : decode cX11_picks 18 = .ok (.istore 6, 2) := by decide +kernel
theorem dX11_picks_20 : decode cX11_picks 20 = .ok (.aload_n 0, 1) := by decide +kernel
theorem dX11_picks_21 : decode cX11_picks 21 = .ok (.getfield 37, 3) := by decide +kernel
theorem dX11_picks_24 : decode cX11_picks 24 = .ok (.iconst 3, 1) := by decide +kernel
theorem dX11_picks_25 : decode cX11_picks 25 = .ok (.if_icmp .ne 7, 3) := by decide +kernel
theorem dX11_picks_28 : decode cX11_picks 28 = .ok (.iconst 0, 1) := by decide +kernel
theorem dX11_picks_29 : decode cX11_picks 29 = .ok (.goto 10, 3) := by decide +kernel
theorem dX11_picks_32 : decode cX11_picks 32 = .ok (.aload_n 0, 1) := by decide +kernel
theorem dX11_picks_33 : decode cX11_picks 33 = .ok (.getfield 9, 3) := by decide +kernel
theorem dX11_picks_36 : decode cX11_picks 36 = .ok (.iload 6, 2) := by decide +kernel
theorem dX11_picks_38 : decode cX11_picks 38 = .ok (.iaload, 1) := by decide +kernel
theorem dX11_picks_39 : decode cX11_picks 39 = .ok (.istore 7, 2) := by decide +kernel
theorem dX11_picks_41 : decode cX11_picks 41 = .ok (.iload 7, 2) := by decide +kernel
theorem dX11_picks_43 : decode cX11_picks 43 = .ok (.iconst 2, 1) := by decide +kernel
theorem dX11_picks_44 : decode cX11_picks 44 = .ok (.if_icmp .ge 24, 3) := by decide +kernel
theorem dX11_picks_47 : decode cX11_picks 47 = .ok (.iload 7, 2) := by decide +kernel
theorem dX11_picks_49 : decode cX11_picks 49 = .ok (.ifCond .ne 12, 3) := by decide +kernel
theorem dX11_picks_52 : decode cX11_picks 52 = .ok (.aload_n 0, 1) := by decide +kernel
theorem dX11_picks_53 : decode cX11_picks 53 = .ok (.iload 5, 2) := by decide +kernel
theorem dX11_picks_55 : decode cX11_picks 55 = .ok (.invokevirtual 137, 3) := by decide +kernel
theorem dX11_picks_58 : decode cX11_picks 58 = .ok (.goto 9, 3) := by decide +kernel
theorem dX11_picks_61 : decode cX11_picks 61 = .ok (.aload_n 0, 1) := by decide +kernel
theorem dX11_picks_62 : decode cX11_picks 62 = .ok (.iload 5, 2) := by decide +kernel
theorem dX11_picks_64 : decode cX11_picks 64 = .ok (.invokevirtual 140, 3) := by decide +kernel
theorem dX11_picks_67 : decode cX11_picks 67 = .ok (.ireturn, 1) := by decide +kernel
theorem dX11_picks_68 : decode cX11_picks 68 = .ok (.aload_n 0, 1) := by decide +kernel
theorem dX11_picks_69 : decode cX11_picks 69 = .ok (.getfield 9, 3) := by decide +kernel
theorem dX11_picks_72 : decode cX11_picks 72 = .ok (.iload 6, 2) := by decide +kernel
theorem dX11_picks_74 : decode cX11_picks 74 = .ok (.bipush 11, 2) := by decide +kernel
theorem dX11_picks_76 : decode cX11_picks 76 = .ok (.iadd, 1) := by decide +kernel
theorem dX11_picks_77 : decode cX11_picks 77 = .ok (.iload_n 3, 1) := by decide +kernel
theorem dX11_picks_78 : decode cX11_picks 78 = .ok (.iadd, 1) := by decide +kernel
theorem dX11_picks_79 : decode cX11_picks 79 = .ok (.iaload, 1) := by decide +kernel
theorem dX11_picks_80 : decode cX11_picks 80 = .ok (.istore 8, 2) := by decide +kernel
theorem dX11_picks_82 : decode cX11_picks 82 = .ok (.iload 8, 2) := by decide +kernel
theorem dX11_picks_84 : decode cX11_picks 84 = .ok (.ifCond .lt 17, 3) := by decide +kernel
theorem dX11_picks_87 : decode cX11_picks 87 = .ok (.iload 5, 2) := by decide +kernel
theorem dX11_picks_89 : decode cX11_picks 89 = .ok (.iload 8, 2) := by decide +kernel
theorem dX11_picks_91 : decode cX11_picks 91 = .ok (.ishr, 1) := by decide +kernel
theorem dX11_picks_92 : decode cX11_picks 92 = .ok (.iconst 1, 1) := by decide +kernel
theorem dX11_picks_93 : decode cX11_picks 93 = .ok (.iand, 1) := by decide +kernel
theorem dX11_picks_94 : decode cX11_picks 94 = .ok (.iconst 1, 1) := by decide +kernel
theorem dX11_picks_95 : decode cX11_picks 95 = .ok (.if_icmp .ne 6, 3) := by decide +kernel
theorem dX11_picks_98 : decode cX11_picks 98 = .ok (.iload 8, 2) := by decide +kernel
theorem dX11_picks_100 : decode cX11_picks 100 = .ok (.ireturn, 1) := by decide +kernel
theorem dX11_picks_101 : decode cX11_picks 101 = .ok (.aload_n 0, 1) := by decide +kernel
theorem dX11_picks_102 : decode cX11_picks 102 = .ok (.getfield 9, 3) := by decide +kernel
theorem dX11_picks_105 : decode cX11_picks 105 = .ok (.iload 6, 2) := by decide +kernel
theorem dX11_picks_107 : decode cX11_picks 107 = .ok (.bipush 11, 2) := by decide +kernel
theorem dX11_picks_109 : decode cX11_picks 109 = .ok (.iadd, 1) := by decide +kernel
theorem dX11_picks_110 : decode cX11_picks 110 = .ok (.iload_n 3, 1) := by decide +kernel
theorem dX11_picks_111 : decode cX11_picks 111 = .ok (.iadd, 1) := by decide +kernel
theorem dX11_picks_112 : decode cX11_picks 112 = .ok (.aload_n 0, 1) := by decide +kernel
theorem dX11_picks_113 : decode cX11_picks 113 = .ok (.iload 5, 2) := by decide +kernel
theorem dX11_picks_115 : decode cX11_picks 115 = .ok (.invokevirtual 137, 3) := by decide +kernel
theorem dX11_picks_118 : decode cX11_picks 118 = .ok (.iastore, 1) := by decide +kernel
theorem dX11_picks_119 : decode cX11_picks 119 = .ok (.aload_n 0, 1) := by decide +kernel
theorem dX11_picks_120 : decode cX11_picks 120 = .ok (.getfield 9, 3) := by decide +kernel
theorem dX11_picks_123 : decode cX11_picks 123 = .ok (.iload 6, 2) := by decide +kernel
theorem dX11_picks_125 : decode cX11_picks 125 = .ok (.bipush 11, 2) := by decide +kernel
theorem dX11_picks_127 : decode cX11_picks 127 = .ok (.iadd, 1) := by decide +kernel
theorem dX11_picks_128 : decode cX11_picks 128 = .ok (.iload_n 3, 1) := by decide +kernel
theorem dX11_picks_129 : decode cX11_picks 129 = .ok (.iadd, 1) := by decide +kernel
theorem dX11_picks_130 : decode cX11_picks 130 = .ok (.iaload, 1) := by decide +kernel
theorem dX11_picks_131 : decode cX11_picks 131 = .ok (.ireturn, 1) := by decide +kernel
theorem dX11_ejects_0 : decode cX11_ejects 0 = .ok (.iconst 0, 1) := by decide +kernel
theorem dX11_ejects_1 : decode cX11_ejects 1 = .ok (.istore_n 3, 1) := by decide +kernel
theorem dX11_ejects_2 : decode cX11_ejects 2 = .ok (.iconst 0, 1) := by decide +kernel
theorem dX11_ejects_3 : decode cX11_ejects 3 = .ok (.istore 4, 2) := by decide +kernel
theorem dX11_ejects_5 : decode cX11_ejects 5 = .ok (.iconst 0, 1) := by decide +kernel
theorem dX11_ejects_6 : decode cX11_ejects 6 = .ok (.istore 5, 2) := by decide +kernel
theorem dX11_ejects_8 : decode cX11_ejects 8 = .ok (.iload 5, 2) := by decide +kernel
theorem dX11_ejects_10 : decode cX11_ejects 10 = .ok (.aload_n 0, 1) := by decide +kernel
theorem dX11_ejects_11 : decode cX11_ejects 11 = .ok (.getfield 9, 3) := by decide +kernel
theorem dX11_ejects_14 : decode cX11_ejects 14 = .ok (.sipush 144, 3) := by decide +kernel
theorem dX11_ejects_17 : decode cX11_ejects 17 = .ok (.iaload, 1) := by decide +kernel
theorem dX11_ejects_18 : decode cX11_ejects 18 = .ok (.if_icmp .ge 58, 3) := by decide +kernel
theorem dX11_ejects_21 : decode cX11_ejects 21 = .ok (.iload_n 3, 1) := by decide +kernel
theorem dX11_ejects_22 : decode cX11_ejects 22 = .ok (.aload_n 0, 1) := by decide +kernel
theorem dX11_ejects_23 : decode cX11_ejects 23 = .ok (.iload 5, 2) := by decide +kernel
theorem dX11_ejects_25 : decode cX11_ejects 25 = .ok (.iload_n 2, 1) := by decide +kernel
theorem dX11_ejects_26 : decode cX11_ejects 26 = .ok (.invokevirtual 121, 3) := by decide +kernel
theorem dX11_ejects_29 : decode cX11_ejects 29 = .ok (.ifCond .eq 7, 3) := by decide +kernel
theorem dX11_ejects_32 : decode cX11_ejects 32 = .ok (.iconst 1, 1) := by decide +kernel
theorem dX11_ejects_33 : decode cX11_ejects 33 = .ok (.goto 4, 3) := by decide +kernel
theorem dX11_ejects_36 : decode cX11_ejects 36 = .ok (.iconst 0, 1) := by decide +kernel
theorem dX11_ejects_37 : decode cX11_ejects 37 = .ok (.iadd, 1) := by decide +kernel
theorem dX11_ejects_38 : decode cX11_ejects 38 = .ok (.istore_n 3, 1) := by decide +kernel
theorem dX11_ejects_39 : decode cX11_ejects 39 = .ok (.iload 4, 2) := by decide +kernel
theorem dX11_ejects_41 : decode cX11_ejects 41 = .ok (.aload_n 0, 1) := by decide +kernel
theorem dX11_ejects_42 : decode cX11_ejects 42 = .ok (.iload 5, 2) := by decide +kernel
theorem dX11_ejects_44 : decode cX11_ejects 44 = .ok (.iload_n 2, 1) := by decide +kernel
theorem dX11_ejects_45 : decode cX11_ejects 45 = .ok (.invokevirtual 121, 3) := by decide +kernel
theorem dX11_ejects_48 : decode cX11_ejects 48 = .ok (.ifCond .eq 18, 3) := by decide +kernel
theorem dX11_ejects_51 : decode cX11_ejects 51 = .ok (.aload_n 0, 1) := by decide +kernel
theorem dX11_ejects_52 : decode cX11_ejects 52 = .ok (.iload 5, 2) := by decide +kernel
theorem dX11_ejects_54 : decode cX11_ejects 54 = .ok (.bipush 9, 2) := by decide +kernel
theorem dX11_ejects_56 : decode cX11_ejects 56 = .ok (.invokevirtual 66, 3) := by decide +kernel
theorem dX11_ejects_59 : decode cX11_ejects 59 = .ok (.ifCond .le 7, 3) := by decide +kernel
theorem dX11_ejects_62 : decode cX11_ejects 62 = .ok (.iconst 1, 1) := by decide +kernel
theorem dX11_ejects_63 : decode cX11_ejects 63 = .ok (.goto 4, 3) := by decide +kernel
theorem dX11_ejects_66 : decode cX11_ejects 66 = .ok (.iconst 0, 1) := by decide +kernel
theorem dX11_ejects_67 : decode cX11_ejects 67 = .ok (.iadd, 1) := by decide +kernel
theorem dX11_ejects_68 : decode cX11_ejects 68 = .ok (.istore 4, 2) := by decide +kernel
theorem dX11_ejects_70 : decode cX11_ejects 70 = .ok (.iinc 5 1, 3) := by decide +kernel
theorem dX11_ejects_73 : decode cX11_ejects 73 = .ok (.goto (-65), 3) := by decide +kernel
theorem dX11_ejects_76 : decode cX11_ejects 76 = .ok (.sipush 145, 3) := by decide +kernel
theorem dX11_ejects_79 : decode cX11_ejects 79 = .ok (.bipush 21, 2) := by decide +kernel
theorem dX11_ejects_81 : decode cX11_ejects 81 = .ok (.iload_n 2, 1) := by decide +kernel
theorem dX11_ejects_82 : decode cX11_ejects 82 = .ok (.imul, 1) := by decide +kernel
theorem dX11_ejects_83 : decode cX11_ejects 83 = .ok (.iadd, 1) := by decide +kernel
theorem dX11_ejects_84 : decode cX11_ejects 84 = .ok (.istore 5, 2) := by decide +kernel
theorem dX11_ejects_86 : decode cX11_ejects 86 = .ok (.aload_n 0, 1) := by decide +kernel
theorem dX11_ejects_87 : decode cX11_ejects 87 = .ok (.getfield 37, 3) := by decide +kernel
theorem dX11_ejects_90 : decode cX11_ejects 90 = .ok (.iconst 2, 1) := by decide +kernel
theorem dX11_ejects_91 : decode cX11_ejects 91 = .ok (.if_icmp .eq 43, 3) := by decide +kernel
theorem dX11_ejects_94 : decode cX11_ejects 94 = .ok (.aload_n 0, 1) := by decide +kernel
theorem dX11_ejects_95 : decode cX11_ejects 95 = .ok (.iload_n 1, 1) := by decide +kernel
theorem dX11_ejects_96 : decode cX11_ejects 96 = .ok (.bipush 7, 2) := by decide +kernel
theorem dX11_ejects_98 : decode cX11_ejects 98 = .ok (.invokevirtual 66, 3) := by decide +kernel
theorem dX11_ejects_101 : decode cX11_ejects 101 = .ok (.aload_n 0, 1) := by decide +kernel
theorem dX11_ejects_102 : decode cX11_ejects 102 = .ok (.getfield 9, 3) := by decide +kernel
theorem dX11_ejects_105 : decode cX11_ejects 105 = .ok (.iload 5, 2) := by decide +kernel
theorem dX11_ejects_107 : decode cX11_ejects 107 = .ok (.iconst 1, 1) := by decide +kernel
theorem dX11_ejects_108 : decode cX11_ejects 108 = .ok (.iadd, 1) := by decide +kernel
theorem dX11_ejects_109 : decode cX11_ejects 109 = .ok (.iaload, 1) := by decide +kernel
theorem dX11_ejects_110 : decode cX11_ejects 110 = .ok (.if_icmp .lt 24, 3) := by decide +kernel
theorem dX11_ejects_113 : decode cX11_ejects 113 = .ok (.iload 4, 2) := by decide +kernel
theorem dX11_ejects_115 : decode cX11_ejects 115 = .ok (.iconst 1, 1) := by decide +kernel
theorem dX11_ejects_116 : decode cX11_ejects 116 = .ok (.iadd, 1) := by decide +kernel
theorem dX11_ejects_117 : decode cX11_ejects 117 = .ok (.bipush 100, 2) := by decide +kernel
theorem dX11_ejects_119 : decode cX11_ejects 119 = .ok (.imul, 1) := by decide +kernel
theorem dX11_ejects_120 : decode cX11_ejects 120 = .ok (.aload_n 0, 1) := by decide +kernel
theorem dX11_ejects_121 : decode cX11_ejects 121 = .ok (.getfield 9, 3) := by decide +kernel
theorem dX11_ejects_124 : decode cX11_ejects 124 = .ok (.iload 5, 2) := by decide +kernel
theorem dX11_ejects_126 : decode cX11_ejects 126 = .ok (.iconst 3, 1) := by decide +kernel
theorem dX11_ejects_127 : decode cX11_ejects 127 = .ok (.iadd, 1) := by decide +kernel
theorem dX11_ejects_128 : decode cX11_ejects 128 = .ok (.iaload, 1) := by decide +kernel
theorem dX11_ejects_129 : decode cX11_ejects 129 = .ok (.iload_n 3, 1) := by decide +kernel
theorem dX11_ejects_130 : decode cX11_ejects 130 = .ok (.imul, 1) := by decide +kernel
theorem dX11_ejects_131 : decode cX11_ejects 131 = .ok (.if_icmp .le 4, 3) := by decide +kernel
theorem dX11_ejects_134 : decode cX11_ejects 134 = .ok (.return_, 1) := by decide +kernel
theorem dX11_ejects_135 : decode cX11_ejects 135 = .ok (.aload_n 0, 1) := by decide +kernel
theorem dX11_ejects_136 : decode cX11_ejects 136 = .ok (.iload_n 1, 1) := by decide +kernel
theorem dX11_ejects_137 : decode cX11_ejects 137 = .ok (.bipush 8, 2) := by decide +kernel
theorem dX11_ejects_139 : decode cX11_ejects 139 = .ok (.aload_n 0, 1) := by decide +kernel
theorem dX11_ejects_140 : decode cX11_ejects 140 = .ok (.iload_n 1, 1) := by decide +kernel
theorem dX11_ejects_141 : decode cX11_ejects 141 = .ok (.bipush 8, 2) := by decide +kernel
theorem dX11_ejects_143 : decode cX11_ejects 143 = .ok (.invokevirtual 66, 3) := by decide +kernel
theorem dX11_ejects_146 : decode cX11_ejects 146 = .ok (.iconst 1, 1) := by decide +kernel
theorem dX11_ejects_147 : decode cX11_ejects 147 = .ok (.iadd, 1) := by decide +kernel
theorem dX11_ejects_148 : decode cX11_ejects 148 = .ok (.invokevirtual 58, 3) := by decide +kernel
theorem dX11_ejects_151 : decode cX11_ejects 151 = .ok (.aload_n 0, 1) := by decide +kernel
theorem dX11_ejects_152 : decode cX11_ejects 152 = .ok (.iload_n 1, 1) := by decide +kernel
theorem dX11_ejects_153 : decode cX11_ejects 153 = .ok (.bipush 7, 2) := by decide +kernel
theorem dX11_ejects_155 : decode cX11_ejects 155 = .ok (.iconst 0, 1) := by decide +kernel
theorem dX11_ejects_156 : decode cX11_ejects 156 = .ok (.invokevirtual 58, 3) := by decide +kernel
theorem dX11_ejects_159 : decode cX11_ejects 159 = .ok (.aload_n 0, 1) := by decide +kernel
theorem dX11_ejects_160 : decode cX11_ejects 160 = .ok (.iload_n 1, 1) := by decide +kernel
theorem dX11_ejects_161 : decode cX11_ejects 161 = .ok (.bipush 9, 2) := by decide +kernel
theorem dX11_ejects_163 : decode cX11_ejects 163 = .ok (.aload_n 0, 1) := by decide +kernel
theorem dX11_ejects_164 : decode cX11_ejects 164 = .ok (.getfield 9, 3) := by decide +kernel
theorem dX11_ejects_167 : decode cX11_ejects 167 = .ok (.iload 5, 2) := by decide +kernel
theorem dX11_ejects_169 : decode cX11_ejects 169 = .ok (.iconst 2, 1) := by decide +kernel
theorem dX11_ejects_170 : decode cX11_ejects 170 = .ok (.iadd, 1) := by decide +kernel
theorem dX11_ejects_171 : decode cX11_ejects 171 = .ok (.iaload, 1) := by decide +kernel
theorem dX11_ejects_172 : decode cX11_ejects 172 = .ok (.aload_n 0, 1) := by decide +kernel
theorem dX11_ejects_173 : decode cX11_ejects 173 = .ok (.iload_n 1, 1) := by decide +kernel
theorem dX11_ejects_174 : decode cX11_ejects 174 = .ok (.bipush 8, 2) := by decide +kernel
theorem dX11_ejects_176 : decode cX11_ejects 176 = .ok (.invokevirtual 66, 3) := by decide +kernel
theorem dX11_ejects_179 : decode cX11_ejects 179 = .ok (.imul, 1) := by decide +kernel
theorem dX11_ejects_180 : decode cX11_ejects 180 = .ok (.invokevirtual 58, 3) := by decide +kernel
theorem dX11_ejects_183 : decode cX11_ejects 183 = .ok (.aload_n 0, 1) := by decide +kernel
theorem dX11_ejects_184 : decode cX11_ejects 184 = .ok (.getfield 9, 3) := by decide +kernel
theorem dX11_ejects_187 : decode cX11_ejects 187 = .ok (.sipush 704, 3) := by decide +kernel
theorem dX11_ejects_190 : decode cX11_ejects 190 = .ok (.dup2, 1) := by decide +kernel
theorem dX11_ejects_191 : decode cX11_ejects 191 = .ok (.iaload, 1) := by decide +kernel
theorem dX11_ejects_192 : decode cX11_ejects 192 = .ok (.iconst 1, 1) := by decide +kernel
theorem dX11_ejects_193 : decode cX11_ejects 193 = .ok (.iadd, 1) := by decide +kernel
theorem dX11_ejects_194 : decode cX11_ejects 194 = .ok (.iastore, 1) := by decide +kernel
theorem dX11_ejects_195 : decode cX11_ejects 195 = .ok (.return_, 1) := by decide +kernel
theorem dX11_tries_0 : decode cX11_tries 0 = .ok (.aload_n 0, 1) := by decide +kernel
theorem dX11_tries_1 : decode cX11_tries 1 = .ok (.iload_n 1, 1) := by decide +kernel
theorem dX11_tries_2 : decode cX11_tries 2 = .ok (.iconst 3, 1) := by decide +kernel
theorem dX11_tries_3 : decode cX11_tries 3 = .ok (.invokevirtual 66, 3) := by decide +kernel
theorem dX11_tries_6 : decode cX11_tries 6 = .ok (.aload_n 0, 1) := by decide +kernel
theorem dX11_tries_7 : decode cX11_tries 7 = .ok (.iload_n 1, 1) := by decide +kernel
theorem dX11_tries_8 : decode cX11_tries 8 = .ok (.iconst 5, 1) := by decide +kernel
theorem dX11_tries_9 : decode cX11_tries 9 = .ok (.invokevirtual 66, 3) := by decide +kernel
theorem dX11_tries_12 : decode cX11_tries 12 = .ok (.bipush 8, 2) := by decide +kernel
theorem dX11_tries_14 : decode cX11_tries 14 = .ok (.irem, 1) := by decide +kernel
theorem dX11_tries_15 : decode cX11_tries 15 = .ok (.ishr, 1) := by decide +kernel
theorem dX11_tries_16 : decode cX11_tries 16 = .ok (.iconst 1, 1) := by decide +kernel
theorem dX11_tries_17 : decode cX11_tries 17 = .ok (.iand, 1) := by decide +kernel
theorem dX11_tries_18 : decode cX11_tries 18 = .ok (.iconst 1, 1) := by decide +kernel
theorem dX11_tries_19 : decode cX11_tries 19 = .ok (.if_icmp .ne 7, 3) := by decide +kernel
theorem dX11_tries_22 : decode cX11_tries 22 = .ok (.iconst 1, 1) := by decide +kernel
theorem dX11_tries_23 : decode cX11_tries 23 = .ok (.goto 4, 3) := by decide +kernel
theorem dX11_tries_26 : decode cX11_tries 26 = .ok (.iconst 0, 1) := by decide +kernel
theorem dX11_tries_27 : decode cX11_tries 27 = .ok (.istore 4, 2) := by decide +kernel
theorem dX11_tries_29 : decode cX11_tries 29 = .ok (.aload_n 0, 1) := by decide +kernel
theorem dX11_tries_30 : decode cX11_tries 30 = .ok (.iload_n 1, 1) := by decide +kernel
theorem dX11_tries_31 : decode cX11_tries 31 = .ok (.iconst 5, 1) := by decide +kernel
theorem dX11_tries_32 : decode cX11_tries 32 = .ok (.aload_n 0, 1) := by decide +kernel
theorem dX11_tries_33 : decode cX11_tries 33 = .ok (.iload_n 1, 1) := by decide +kernel
theorem dX11_tries_34 : decode cX11_tries 34 = .ok (.iconst 5, 1) := by decide +kernel
theorem dX11_tries_35 : decode cX11_tries 35 = .ok (.invokevirtual 66, 3) := by decide +kernel
theorem dX11_tries_38 : decode cX11_tries 38 = .ok (.iconst 1, 1) := by decide +kernel
theorem dX11_tries_39 : decode cX11_tries 39 = .ok (.iadd, 1) := by decide +kernel
theorem dX11_tries_40 : decode cX11_tries 40 = .ok (.invokevirtual 58, 3) := by decide +kernel
theorem dX11_tries_43 : decode cX11_tries 43 = .ok (.aload_n 0, 1) := by decide +kernel
theorem dX11_tries_44 : decode cX11_tries 44 = .ok (.iload_n 1, 1) := by decide +kernel
theorem dX11_tries_45 : decode cX11_tries 45 = .ok (.bipush 6, 2) := by decide +kernel
theorem dX11_tries_47 : decode cX11_tries 47 = .ok (.aload_n 0, 1) := by decide +kernel
theorem dX11_tries_48 : decode cX11_tries 48 = .ok (.iload_n 1, 1) := by decide +kernel
theorem dX11_tries_49 : decode cX11_tries 49 = .ok (.bipush 6, 2) := by decide +kernel
theorem dX11_tries_51 : decode cX11_tries 51 = .ok (.invokevirtual 66, 3) := by decide +kernel
theorem dX11_tries_54 : decode cX11_tries 54 = .ok (.iload 4, 2) := by decide +kernel
theorem dX11_tries_56 : decode cX11_tries 56 = .ok (.ifCond .eq 7, 3) := by decide +kernel
theorem dX11_tries_59 : decode cX11_tries 59 = .ok (.iconst 1, 1) := by decide +kernel
theorem dX11_tries_60 : decode cX11_tries 60 = .ok (.goto 4, 3) := by decide +kernel
theorem dX11_tries_63 : decode cX11_tries 63 = .ok (.iconst 0, 1) := by decide +kernel
theorem dX11_tries_64 : decode cX11_tries 64 = .ok (.iadd, 1) := by decide +kernel
theorem dX11_tries_65 : decode cX11_tries 65 = .ok (.invokevirtual 58, 3) := by decide +kernel
theorem dX11_tries_68 : decode cX11_tries 68 = .ok (.aload_n 0, 1) := by decide +kernel
theorem dX11_tries_69 : decode cX11_tries 69 = .ok (.iload_n 1, 1) := by decide +kernel
theorem dX11_tries_70 : decode cX11_tries 70 = .ok (.bipush 7, 2) := by decide +kernel
theorem dX11_tries_72 : decode cX11_tries 72 = .ok (.iload 4, 2) := by decide +kernel
theorem dX11_tries_74 : decode cX11_tries 74 = .ok (.ifCond .eq 7, 3) := by decide +kernel
theorem dX11_tries_77 : decode cX11_tries 77 = .ok (.iconst 0, 1) := by decide +kernel
theorem dX11_tries_78 : decode cX11_tries 78 = .ok (.goto 12, 3) := by decide +kernel
theorem dX11_tries_81 : decode cX11_tries 81 = .ok (.aload_n 0, 1) := by decide +kernel
theorem dX11_tries_82 : decode cX11_tries 82 = .ok (.iload_n 1, 1) := by decide +kernel
theorem dX11_tries_83 : decode cX11_tries 83 = .ok (.bipush 7, 2) := by decide +kernel
theorem dX11_tries_85 : decode cX11_tries 85 = .ok (.invokevirtual 66, 3) := by decide +kernel
theorem dX11_tries_88 : decode cX11_tries 88 = .ok (.iconst 1, 1) := by decide +kernel
theorem dX11_tries_89 : decode cX11_tries 89 = .ok (.iadd, 1) := by decide +kernel
theorem dX11_tries_90 : decode cX11_tries 90 = .ok (.invokevirtual 58, 3) := by decide +kernel
theorem dX11_tries_93 : decode cX11_tries 93 = .ok (.aload_n 0, 1) := by decide +kernel
theorem dX11_tries_94 : decode cX11_tries 94 = .ok (.getfield 9, 3) := by decide +kernel
theorem dX11_tries_97 : decode cX11_tries 97 = .ok (.sipush 702, 3) := by decide +kernel
theorem dX11_tries_100 : decode cX11_tries 100 = .ok (.dup2, 1) := by decide +kernel
theorem dX11_tries_101 : decode cX11_tries 101 = .ok (.iaload, 1) := by decide +kernel
theorem dX11_tries_102 : decode cX11_tries 102 = .ok (.iconst 1, 1) := by decide +kernel
theorem dX11_tries_103 : decode cX11_tries 103 = .ok (.iadd, 1) := by decide +kernel
theorem dX11_tries_104 : decode cX11_tries 104 = .ok (.iastore, 1) := by decide +kernel
theorem dX11_tries_105 : decode cX11_tries 105 = .ok (.iload 4, 2) := by decide +kernel
theorem dX11_tries_107 : decode cX11_tries 107 = .ok (.ifCond .ne 9, 3) := by decide +kernel
theorem dX11_tries_110 : decode cX11_tries 110 = .ok (.aload_n 0, 1) := by decide +kernel
theorem dX11_tries_111 : decode cX11_tries 111 = .ok (.iload_n 1, 1) := by decide +kernel
theorem dX11_tries_112 : decode cX11_tries 112 = .ok (.iload_n 2, 1) := by decide +kernel
theorem dX11_tries_113 : decode cX11_tries 113 = .ok (.invokevirtual 143, 3) := by decide +kernel
theorem dX11_tries_116 : decode cX11_tries 116 = .ok (.sipush 707, 3) := by decide +kernel
theorem dX11_tries_119 : decode cX11_tries 119 = .ok (.iconst 4, 1) := by decide +kernel
theorem dX11_tries_120 : decode cX11_tries 120 = .ok (.aload_n 0, 1) := by decide +kernel
theorem dX11_tries_121 : decode cX11_tries 121 = .ok (.getfield 9, 3) := by decide +kernel
theorem dX11_tries_124 : decode cX11_tries 124 = .ok (.sipush 706, 3) := by decide +kernel
theorem dX11_tries_127 : decode cX11_tries 127 = .ok (.iaload, 1) := by decide +kernel
theorem dX11_tries_128 : decode cX11_tries 128 = .ok (.imul, 1) := by decide +kernel
theorem dX11_tries_129 : decode cX11_tries 129 = .ok (.iadd, 1) := by decide +kernel
theorem dX11_tries_130 : decode cX11_tries 130 = .ok (.istore 5, 2) := by decide +kernel
theorem dX11_tries_132 : decode cX11_tries 132 = .ok (.aload_n 0, 1) := by decide +kernel
theorem dX11_tries_133 : decode cX11_tries 133 = .ok (.getfield 9, 3) := by decide +kernel
theorem dX11_tries_136 : decode cX11_tries 136 = .ok (.iload 5, 2) := by decide +kernel
theorem dX11_tries_138 : decode cX11_tries 138 = .ok (.iload_n 1, 1) := by decide +kernel
theorem dX11_tries_139 : decode cX11_tries 139 = .ok (.iastore, 1) := by decide +kernel
theorem dX11_tries_140 : decode cX11_tries 140 = .ok (.aload_n 0, 1) := by decide +kernel
theorem dX11_tries_141 : decode cX11_tries 141 = .ok (.getfield 9, 3) := by decide +kernel
theorem dX11_tries_144 : decode cX11_tries 144 = .ok (.iload 5, 2) := by decide +kernel
theorem dX11_tries_146 : decode cX11_tries 146 = .ok (.iconst 1, 1) := by decide +kernel
theorem dX11_tries_147 : decode cX11_tries 147 = .ok (.iadd, 1) := by decide +kernel
theorem dX11_tries_148 : decode cX11_tries 148 = .ok (.iload 4, 2) := by decide +kernel
theorem dX11_tries_150 : decode cX11_tries 150 = .ok (.ifCond .eq 7, 3) := by decide +kernel
theorem dX11_tries_153 : decode cX11_tries 153 = .ok (.iconst 1, 1) := by decide +kernel
theorem dX11_tries_154 : decode cX11_tries 154 = .ok (.goto 4, 3) := by decide +kernel
theorem dX11_tries_157 : decode cX11_tries 157 = .ok (.iconst 0, 1) := by decide +kernel
theorem dX11_tries_158 : decode cX11_tries 158 = .ok (.iastore, 1) := by decide +kernel
theorem dX11_tries_159 : decode cX11_tries 159 = .ok (.aload_n 0, 1) := by decide +kernel
theorem dX11_tries_160 : decode cX11_tries 160 = .ok (.getfield 9, 3) := by decide +kernel
theorem dX11_tries_163 : decode cX11_tries 163 = .ok (.iload 5, 2) := by decide +kernel
theorem dX11_tries_165 : decode cX11_tries 165 = .ok (.iconst 2, 1) := by decide +kernel
theorem dX11_tries_166 : decode cX11_tries 166 = .ok (.iadd, 1) := by decide +kernel
theorem dX11_tries_167 : decode cX11_tries 167 = .ok (.aload_n 0, 1) := by decide +kernel
theorem dX11_tries_168 : decode cX11_tries 168 = .ok (.iload_n 1, 1) := by decide +kernel
theorem dX11_tries_169 : decode cX11_tries 169 = .ok (.iconst 1, 1) := by decide +kernel
theorem dX11_tries_170 : decode cX11_tries 170 = .ok (.invokevirtual 66, 3) := by decide +kernel
theorem dX11_tries_173 : decode cX11_tries 173 = .ok (.iload_n 3, 1) := by decide +kernel
theorem dX11_tries_174 : decode cX11_tries 174 = .ok (.if_icmp .ne 7, 3) := by decide +kernel
theorem dX11_tries_177 : decode cX11_tries 177 = .ok (.iconst 1, 1) := by decide +kernel
theorem dX11_tries_178 : decode cX11_tries 178 = .ok (.goto 4, 3) := by decide +kernel
theorem dX11_tries_181 : decode cX11_tries 181 = .ok (.iconst 0, 1) := by decide +kernel
theorem dX11_tries_182 : decode cX11_tries 182 = .ok (.iastore, 1) := by decide +kernel
theorem dX11_tries_183 : decode cX11_tries 183 = .ok (.aload_n 0, 1) := by decide +kernel
theorem dX11_tries_184 : decode cX11_tries 184 = .ok (.getfield 9, 3) := by decide +kernel
theorem dX11_tries_187 : decode cX11_tries 187 = .ok (.iload 5, 2) := by decide +kernel
theorem dX11_tries_189 : decode cX11_tries 189 = .ok (.iconst 3, 1) := by decide +kernel
theorem dX11_tries_190 : decode cX11_tries 190 = .ok (.iadd, 1) := by decide +kernel
theorem dX11_tries_191 : decode cX11_tries 191 = .ok (.aload_n 0, 1) := by decide +kernel
theorem dX11_tries_192 : decode cX11_tries 192 = .ok (.iload_n 1, 1) := by decide +kernel
theorem dX11_tries_193 : decode cX11_tries 193 = .ok (.bipush 9, 2) := by decide +kernel
theorem dX11_tries_195 : decode cX11_tries 195 = .ok (.invokevirtual 66, 3) := by decide +kernel
theorem dX11_tries_198 : decode cX11_tries 198 = .ok (.ifCond .le 7, 3) := by decide +kernel
theorem dX11_tries_201 : decode cX11_tries 201 = .ok (.iconst 1, 1) := by decide +kernel
theorem dX11_tries_202 : decode cX11_tries 202 = .ok (.goto 4, 3) := by decide +kernel
theorem dX11_tries_205 : decode cX11_tries 205 = .ok (.iconst 0, 1) := by decide +kernel
theorem dX11_tries_206 : decode cX11_tries 206 = .ok (.iastore, 1) := by decide +kernel
theorem dX11_tries_207 : decode cX11_tries 207 = .ok (.aload_n 0, 1) := by decide +kernel
theorem dX11_tries_208 : decode cX11_tries 208 = .ok (.getfield 9, 3) := by decide +kernel
theorem dX11_tries_211 : decode cX11_tries 211 = .ok (.sipush 706, 3) := by decide +kernel
theorem dX11_tries_214 : decode cX11_tries 214 = .ok (.dup2, 1) := by decide +kernel
theorem dX11_tries_215 : decode cX11_tries 215 = .ok (.iaload, 1) := by decide +kernel
theorem dX11_tries_216 : decode cX11_tries 216 = .ok (.iconst 1, 1) := by decide +kernel
theorem dX11_tries_217 : decode cX11_tries 217 = .ok (.iadd, 1) := by decide +kernel
theorem dX11_tries_218 : decode cX11_tries 218 = .ok (.iastore, 1) := by decide +kernel
theorem dX11_tries_219 : decode cX11_tries 219 = .ok (.iload 4, 2) := by decide +kernel
theorem dX11_tries_221 : decode cX11_tries 221 = .ok (.ireturn, 1) := by decide +kernel
theorem dX11_mirrors_0 : decode cX11_mirrors 0 = .ok (.iconst (-1), 1) := by decide +kernel
theorem dX11_mirrors_1 : decode cX11_mirrors 1 = .ok (.istore_n 2, 1) := by decide +kernel
theorem dX11_mirrors_2 : decode cX11_mirrors 2 = .ok (.iconst 0, 1) := by decide +kernel
theorem dX11_mirrors_3 : decode cX11_mirrors 3 = .ok (.istore_n 3, 1) := by decide +kernel
theorem dX11_mirrors_4 : decode cX11_mirrors 4 = .ok (.iload_n 3, 1) := by decide +kernel
theorem dX11_mirrors_5 : decode cX11_mirrors 5 = .ok (.aload_n 0, 1) := by decide +kernel
theorem dX11_mirrors_6 : decode cX11_mirrors 6 = .ok (.getfield 9, 3) := by decide +kernel
theorem dX11_mirrors_9 : decode cX11_mirrors 9 = .ok (.sipush 144, 3) := by decide +kernel
theorem dX11_mirrors_12 : decode cX11_mirrors 12 = .ok (.iaload, 1) := by decide +kernel
theorem dX11_mirrors_13 : decode cX11_mirrors 13 = .ok (.if_icmp .ge 41, 3) := by decide +kernel
theorem dX11_mirrors_16 : decode cX11_mirrors 16 = .ok (.aload_n 0, 1) := by decide +kernel
theorem dX11_mirrors_17 : decode cX11_mirrors 17 = .ok (.iload_n 3, 1) := by decide +kernel
theorem dX11_mirrors_18 : decode cX11_mirrors 18 = .ok (.iload_n 1, 1) := by decide +kernel
theorem dX11_mirrors_19 : decode cX11_mirrors 19 = .ok (.invokevirtual 121, 3) := by decide +kernel
theorem dX11_mirrors_22 : decode cX11_mirrors 22 = .ok (.ifCond .eq 26, 3) := by decide +kernel
theorem dX11_mirrors_25 : decode cX11_mirrors 25 = .ok (.iload_n 2, 1) := by decide +kernel
theorem dX11_mirrors_26 : decode cX11_mirrors 26 = .ok (.ifCond .lt 20, 3) := by decide +kernel
theorem dX11_mirrors_29 : decode cX11_mirrors 29 = .ok (.aload_n 0, 1) := by decide +kernel
theorem dX11_mirrors_30 : decode cX11_mirrors 30 = .ok (.iload_n 3, 1) := by decide +kernel
theorem dX11_mirrors_31 : decode cX11_mirrors 31 = .ok (.bipush 10, 2) := by decide +kernel
theorem dX11_mirrors_33 : decode cX11_mirrors 33 = .ok (.invokevirtual 66, 3) := by decide +kernel
theorem dX11_mirrors_36 : decode cX11_mirrors 36 = .ok (.aload_n 0, 1) := by decide +kernel
theorem dX11_mirrors_37 : decode cX11_mirrors 37 = .ok (.iload_n 2, 1) := by decide +kernel
theorem dX11_mirrors_38 : decode cX11_mirrors 38 = .ok (.bipush 10, 2) := by decide +kernel
theorem dX11_mirrors_40 : decode cX11_mirrors 40 = .ok (.invokevirtual 66, 3) := by decide +kernel
theorem dX11_mirrors_43 : decode cX11_mirrors 43 = .ok (.if_icmp .ge 5, 3) := by decide +kernel
theorem dX11_mirrors_46 : decode cX11_mirrors 46 = .ok (.iload_n 3, 1) := by decide +kernel
theorem dX11_mirrors_47 : decode cX11_mirrors 47 = .ok (.istore_n 2, 1) := by decide +kernel
theorem dX11_mirrors_48 : decode cX11_mirrors 48 = .ok (.iinc 3 1, 3) := by decide +kernel
theorem dX11_mirrors_51 : decode cX11_mirrors 51 = .ok (.goto (-47), 3) := by decide +kernel
theorem dX11_mirrors_54 : decode cX11_mirrors 54 = .ok (.iload_n 2, 1) := by decide +kernel
theorem dX11_mirrors_55 : decode cX11_mirrors 55 = .ok (.ifCond .ge 4, 3) := by decide +kernel
theorem dX11_mirrors_58 : decode cX11_mirrors 58 = .ok (.return_, 1) := by decide +kernel
theorem dX11_mirrors_59 : decode cX11_mirrors 59 = .ok (.aload_n 0, 1) := by decide +kernel
theorem dX11_mirrors_60 : decode cX11_mirrors 60 = .ok (.iload_n 2, 1) := by decide +kernel
theorem dX11_mirrors_61 : decode cX11_mirrors 61 = .ok (.bipush 11, 2) := by decide +kernel
theorem dX11_mirrors_63 : decode cX11_mirrors 63 = .ok (.aload_n 0, 1) := by decide +kernel
theorem dX11_mirrors_64 : decode cX11_mirrors 64 = .ok (.iload_n 2, 1) := by decide +kernel
theorem dX11_mirrors_65 : decode cX11_mirrors 65 = .ok (.bipush 11, 2) := by decide +kernel
theorem dX11_mirrors_67 : decode cX11_mirrors 67 = .ok (.invokevirtual 66, 3) := by decide +kernel
theorem dX11_mirrors_70 : decode cX11_mirrors 70 = .ok (.aload_n 0, 1) := by decide +kernel
theorem dX11_mirrors_71 : decode cX11_mirrors 71 = .ok (.iload_n 2, 1) := by decide +kernel
theorem dX11_mirrors_72 : decode cX11_mirrors 72 = .ok (.iconst 3, 1) := by decide +kernel
theorem dX11_mirrors_73 : decode cX11_mirrors 73 = .ok (.invokevirtual 66, 3) := by decide +kernel
theorem dX11_mirrors_76 : decode cX11_mirrors 76 = .ok (.aload_n 0, 1) := by decide +kernel
theorem dX11_mirrors_77 : decode cX11_mirrors 77 = .ok (.iload_n 2, 1) := by decide +kernel
theorem dX11_mirrors_78 : decode cX11_mirrors 78 = .ok (.bipush 10, 2) := by decide +kernel
theorem dX11_mirrors_80 : decode cX11_mirrors 80 = .ok (.invokevirtual 66, 3) := by decide +kernel
theorem dX11_mirrors_83 : decode cX11_mirrors 83 = .ok (.bipush 8, 2) := by decide +kernel
theorem dX11_mirrors_85 : decode cX11_mirrors 85 = .ok (.irem, 1) := by decide +kernel
theorem dX11_mirrors_86 : decode cX11_mirrors 86 = .ok (.ishr, 1) := by decide +kernel
theorem dX11_mirrors_87 : decode cX11_mirrors 87 = .ok (.iconst 1, 1) := by decide +kernel
theorem dX11_mirrors_88 : decode cX11_mirrors 88 = .ok (.iand, 1) := by decide +kernel
theorem dX11_mirrors_89 : decode cX11_mirrors 89 = .ok (.iadd, 1) := by decide +kernel
theorem dX11_mirrors_90 : decode cX11_mirrors 90 = .ok (.invokevirtual 58, 3) := by decide +kernel
theorem dX11_mirrors_93 : decode cX11_mirrors 93 = .ok (.aload_n 0, 1) := by decide +kernel
theorem dX11_mirrors_94 : decode cX11_mirrors 94 = .ok (.iload_n 2, 1) := by decide +kernel
theorem dX11_mirrors_95 : decode cX11_mirrors 95 = .ok (.bipush 10, 2) := by decide +kernel
theorem dX11_mirrors_97 : decode cX11_mirrors 97 = .ok (.aload_n 0, 1) := by decide +kernel
theorem dX11_mirrors_98 : decode cX11_mirrors 98 = .ok (.iload_n 2, 1) := by decide +kernel
theorem dX11_mirrors_99 : decode cX11_mirrors 99 = .ok (.bipush 10, 2) := by decide +kernel
theorem dX11_mirrors_101 : decode cX11_mirrors 101 = .ok (.invokevirtual 66, 3) := by decide +kernel
theorem dX11_mirrors_104 : decode cX11_mirrors 104 = .ok (.iconst 1, 1) := by decide +kernel
theorem dX11_mirrors_105 : decode cX11_mirrors 105 = .ok (.iadd, 1) := by decide +kernel
theorem dX11_mirrors_106 : decode cX11_mirrors 106 = .ok (.invokevirtual 58, 3) := by decide +kernel
theorem dX11_mirrors_109 : decode cX11_mirrors 109 = .ok (.aload_n 0, 1) := by decide +kernel
theorem dX11_mirrors_110 : decode cX11_mirrors 110 = .ok (.getfield 9, 3) := by decide +kernel
theorem dX11_mirrors_113 : decode cX11_mirrors 113 = .ok (.sipush 703, 3) := by decide +kernel
theorem dX11_mirrors_116 : decode cX11_mirrors 116 = .ok (.dup2, 1) := by decide +kernel
theorem dX11_mirrors_117 : decode cX11_mirrors 117 = .ok (.iaload, 1) := by decide +kernel
theorem dX11_mirrors_118 : decode cX11_mirrors 118 = .ok (.iconst 1, 1) := by decide +kernel
theorem dX11_mirrors_119 : decode cX11_mirrors 119 = .ok (.iadd, 1) := by decide +kernel
theorem dX11_mirrors_120 : decode cX11_mirrors 120 = .ok (.iastore, 1) := by decide +kernel
theorem dX11_mirrors_121 : decode cX11_mirrors 121 = .ok (.return_, 1) := by decide +kernel
theorem dX11_serves_0 : decode cX11_serves 0 = .ok (.sipush 145, 3) := by decide +kernel
theorem dX11_serves_3 : decode cX11_serves 3 = .ok (.bipush 21, 2) := by decide +kernel
theorem dX11_serves_5 : decode cX11_serves 5 = .ok (.iload_n 1, 1) := by decide +kernel
theorem dX11_serves_6 : decode cX11_serves 6 = .ok (.imul, 1) := by decide +kernel
theorem dX11_serves_7 : decode cX11_serves 7 = .ok (.iadd, 1) := by decide +kernel
theorem dX11_serves_8 : decode cX11_serves 8 = .ok (.istore 5, 2) := by decide +kernel
theorem dX11_serves_10 : decode cX11_serves 10 = .ok (.aload_n 0, 1) := by decide +kernel
theorem dX11_serves_11 : decode cX11_serves 11 = .ok (.getfield 9, 3) := by decide +kernel
theorem dX11_serves_14 : decode cX11_serves 14 = .ok (.iload 5, 2) := by decide +kernel
theorem dX11_serves_16 : decode cX11_serves 16 = .ok (.bipush 6, 2) := by decide +kernel
theorem dX11_serves_18 : decode cX11_serves 18 = .ok (.iadd, 1) := by decide +kernel
theorem dX11_serves_19 : decode cX11_serves 19 = .ok (.dup2, 1) := by decide +kernel
theorem dX11_serves_20 : decode cX11_serves 20 = .ok (.iaload, 1) := by decide +kernel
theorem dX11_serves_21 : decode cX11_serves 21 = .ok (.iconst 1, 1) := by decide +kernel
theorem dX11_serves_22 : decode cX11_serves 22 = .ok (.iadd, 1) := by decide +kernel
theorem dX11_serves_23 : decode cX11_serves 23 = .ok (.iastore, 1) := by decide +kernel
theorem dX11_serves_24 : decode cX11_serves 24 = .ok (.aload_n 0, 1) := by decide +kernel
theorem dX11_serves_25 : decode cX11_serves 25 = .ok (.getfield 9, 3) := by decide +kernel
theorem dX11_serves_28 : decode cX11_serves 28 = .ok (.iload 5, 2) := by decide +kernel
theorem dX11_serves_30 : decode cX11_serves 30 = .ok (.iconst 5, 1) := by decide +kernel
theorem dX11_serves_31 : decode cX11_serves 31 = .ok (.iadd, 1) := by decide +kernel
theorem dX11_serves_32 : decode cX11_serves 32 = .ok (.dup2, 1) := by decide +kernel
theorem dX11_serves_33 : decode cX11_serves 33 = .ok (.iaload, 1) := by decide +kernel
theorem dX11_serves_34 : decode cX11_serves 34 = .ok (.aload_n 0, 1) := by decide +kernel
theorem dX11_serves_35 : decode cX11_serves 35 = .ok (.getfield 9, 3) := by decide +kernel
theorem dX11_serves_38 : decode cX11_serves 38 = .ok (.iload 5, 2) := by decide +kernel
theorem dX11_serves_40 : decode cX11_serves 40 = .ok (.iconst 4, 1) := by decide +kernel
theorem dX11_serves_41 : decode cX11_serves 41 = .ok (.iadd, 1) := by decide +kernel
theorem dX11_serves_42 : decode cX11_serves 42 = .ok (.iaload, 1) := by decide +kernel
theorem dX11_serves_43 : decode cX11_serves 43 = .ok (.iadd, 1) := by decide +kernel
theorem dX11_serves_44 : decode cX11_serves 44 = .ok (.iastore, 1) := by decide +kernel
theorem dX11_serves_45 : decode cX11_serves 45 = .ok (.aload_n 0, 1) := by decide +kernel
theorem dX11_serves_46 : decode cX11_serves 46 = .ok (.getfield 9, 3) := by decide +kernel
theorem dX11_serves_49 : decode cX11_serves 49 = .ok (.iload 5, 2) := by decide +kernel
theorem dX11_serves_51 : decode cX11_serves 51 = .ok (.iconst 5, 1) := by decide +kernel
theorem dX11_serves_52 : decode cX11_serves 52 = .ok (.iadd, 1) := by decide +kernel
theorem dX11_serves_53 : decode cX11_serves 53 = .ok (.aload_n 0, 1) := by decide +kernel
theorem dX11_serves_54 : decode cX11_serves 54 = .ok (.getfield 9, 3) := by decide +kernel
theorem dX11_serves_57 : decode cX11_serves 57 = .ok (.iload 5, 2) := by decide +kernel
theorem dX11_serves_59 : decode cX11_serves 59 = .ok (.iconst 5, 1) := by decide +kernel
theorem dX11_serves_60 : decode cX11_serves 60 = .ok (.iadd, 1) := by decide +kernel
theorem dX11_serves_61 : decode cX11_serves 61 = .ok (.iaload, 1) := by decide +kernel
theorem dX11_serves_62 : decode cX11_serves 62 = .ok (.sipush 1000, 3) := by decide +kernel
theorem dX11_serves_65 : decode cX11_serves 65 = .ok (.if_icmp .le 9, 3) := by decide +kernel
theorem dX11_serves_68 : decode cX11_serves 68 = .ok (.sipush 1000, 3) := by decide +kernel
theorem dX11_serves_71 : decode cX11_serves 71 = .ok (.goto 12, 3) := by decide +kernel
theorem dX11_serves_74 : decode cX11_serves 74 = .ok (.aload_n 0, 1) := by decide +kernel
theorem dX11_serves_75 : decode cX11_serves 75 = .ok (.getfield 9, 3) := by decide +kernel
theorem dX11_serves_78 : decode cX11_serves 78 = .ok (.iload 5, 2) := by decide +kernel
theorem dX11_serves_80 : decode cX11_serves 80 = .ok (.iconst 5, 1) := by decide +kernel
theorem dX11_serves_81 : decode cX11_serves 81 = .ok (.iadd, 1) := by decide +kernel
theorem dX11_serves_82 : decode cX11_serves 82 = .ok (.iaload, 1) := by decide +kernel
theorem dX11_serves_83 : decode cX11_serves 83 = .ok (.iastore, 1) := by decide +kernel
theorem dX11_serves_84 : decode cX11_serves 84 = .ok (.iconst 0, 1) := by decide +kernel
theorem dX11_serves_85 : decode cX11_serves 85 = .ok (.istore 6, 2) := by decide +kernel
theorem dX11_serves_87 : decode cX11_serves 87 = .ok (.iconst 0, 1) := by decide +kernel
theorem dX11_serves_88 : decode cX11_serves 88 = .ok (.istore 7, 2) := by decide +kernel
theorem dX11_serves_90 : decode cX11_serves 90 = .ok (.aload_n 0, 1) := by decide +kernel
theorem dX11_serves_91 : decode cX11_serves 91 = .ok (.aload_n 0, 1) := by decide +kernel
theorem dX11_serves_92 : decode cX11_serves 92 = .ok (.iload_n 1, 1) := by decide +kernel
theorem dX11_serves_93 : decode cX11_serves 93 = .ok (.invokevirtual 127, 3) := by decide +kernel
theorem dX11_serves_96 : decode cX11_serves 96 = .ok (.iload 6, 2) := by decide +kernel
theorem dX11_serves_98 : decode cX11_serves 98 = .ok (.iconst (-1), 1) := by decide +kernel
theorem dX11_serves_99 : decode cX11_serves 99 = .ok (.ixor, 1) := by decide +kernel
theorem dX11_serves_100 : decode cX11_serves 100 = .ok (.iand, 1) := by decide +kernel
theorem dX11_serves_101 : decode cX11_serves 101 = .ok (.iload_n 1, 1) := by decide +kernel
theorem dX11_serves_102 : decode cX11_serves 102 = .ok (.iload_n 3, 1) := by decide +kernel
theorem dX11_serves_103 : decode cX11_serves 103 = .ok (.iload 4, 2) := by decide +kernel
theorem dX11_serves_105 : decode cX11_serves 105 = .ok (.invokevirtual 147, 3) := by decide +kernel
theorem dX11_serves_108 : decode cX11_serves 108 = .ok (.istore 8, 2) := by decide +kernel
theorem dX11_serves_110 : decode cX11_serves 110 = .ok (.iload 6, 2) := by decide +kernel
theorem dX11_serves_112 : decode cX11_serves 112 = .ok (.iconst 1, 1) := by decide +kernel
theorem dX11_serves_113 : decode cX11_serves 113 = .ok (.iload 8, 2) := by decide +kernel
theorem dX11_serves_115 : decode cX11_serves 115 = .ok (.ishl, 1) := by decide +kernel
theorem dX11_serves_116 : decode cX11_serves 116 = .ok (.ior, 1) := by decide +kernel
theorem dX11_serves_117 : decode cX11_serves 117 = .ok (.istore 6, 2) := by decide +kernel
theorem dX11_serves_119 : decode cX11_serves 119 = .ok (.iinc 7 1, 3) := by decide +kernel
theorem dX11_serves_122 : decode cX11_serves 122 = .ok (.aload_n 0, 1) := by decide +kernel
theorem dX11_serves_123 : decode cX11_serves 123 = .ok (.iload 8, 2) := by decide +kernel
theorem dX11_serves_125 : decode cX11_serves 125 = .ok (.iload_n 1, 1) := by decide +kernel
theorem dX11_serves_126 : decode cX11_serves 126 = .ok (.iload 4, 2) := by decide +kernel
theorem dX11_serves_128 : decode cX11_serves 128 = .ok (.invokevirtual 150, 3) := by decide +kernel
theorem dX11_serves_131 : decode cX11_serves 131 = .ok (.ifCond .eq 20, 3) := by decide +kernel
theorem dX11_serves_134 : decode cX11_serves 134 = .ok (.aload_n 0, 1) := by decide +kernel
theorem dX11_serves_135 : decode cX11_serves 135 = .ok (.getfield 9, 3) := by decide +kernel
theorem dX11_serves_138 : decode cX11_serves 138 = .ok (.iload 5, 2) := by decide +kernel
theorem dX11_serves_140 : decode cX11_serves 140 = .ok (.bipush 7, 2) := by decide +kernel
theorem dX11_serves_142 : decode cX11_serves 142 = .ok (.iadd, 1) := by decide +kernel
theorem dX11_serves_143 : decode cX11_serves 143 = .ok (.dup2, 1) := by decide +kernel
theorem dX11_serves_144 : decode cX11_serves 144 = .ok (.iaload, 1) := by decide +kernel
theorem dX11_serves_145 : decode cX11_serves 145 = .ok (.iconst 1, 1) := by decide +kernel
theorem dX11_serves_146 : decode cX11_serves 146 = .ok (.iadd, 1) := by decide +kernel
theorem dX11_serves_147 : decode cX11_serves 147 = .ok (.iastore, 1) := by decide +kernel
theorem dX11_serves_148 : decode cX11_serves 148 = .ok (.iload 8, 2) := by decide +kernel
theorem dX11_serves_150 : decode cX11_serves 150 = .ok (.ireturn, 1) := by decide +kernel
theorem dX11_serves_151 : decode cX11_serves 151 = .ok (.aload_n 0, 1) := by decide +kernel
theorem dX11_serves_152 : decode cX11_serves 152 = .ok (.getfield 37, 3) := by decide +kernel
theorem dX11_serves_155 : decode cX11_serves 155 = .ok (.iconst 1, 1) := by decide +kernel
theorem dX11_serves_156 : decode cX11_serves 156 = .ok (.if_icmp .eq 55, 3) := by decide +kernel
theorem dX11_serves_159 : decode cX11_serves 159 = .ok (.iload 7, 2) := by decide +kernel
theorem dX11_serves_161 : decode cX11_serves 161 = .ok (.aload_n 0, 1) := by decide +kernel
theorem dX11_serves_162 : decode cX11_serves 162 = .ok (.getfield 9, 3) := by decide +kernel
theorem dX11_serves_165 : decode cX11_serves 165 = .ok (.sipush 231, 3) := by decide +kernel
theorem dX11_serves_168 : decode cX11_serves 168 = .ok (.bipush 58, 2) := by decide +kernel
theorem dX11_serves_170 : decode cX11_serves 170 = .ok (.iload_n 2, 1) := by decide +kernel
theorem dX11_serves_171 : decode cX11_serves 171 = .ok (.imul, 1) := by decide +kernel
theorem dX11_serves_172 : decode cX11_serves 172 = .ok (.iadd, 1) := by decide +kernel
theorem dX11_serves_173 : decode cX11_serves 173 = .ok (.bipush 56, 2) := by decide +kernel
theorem dX11_serves_175 : decode cX11_serves 175 = .ok (.iadd, 1) := by decide +kernel
theorem dX11_serves_176 : decode cX11_serves 176 = .ok (.iaload, 1) := by decide +kernel
theorem dX11_serves_177 : decode cX11_serves 177 = .ok (.if_icmp .ge 34, 3) := by decide +kernel
theorem dX11_serves_180 : decode cX11_serves 180 = .ok (.aload_n 0, 1) := by decide +kernel
theorem dX11_serves_181 : decode cX11_serves 181 = .ok (.getfield 9, 3) := by decide +kernel
theorem dX11_serves_184 : decode cX11_serves 184 = .ok (.iload 5, 2) := by decide +kernel
theorem dX11_serves_186 : decode cX11_serves 186 = .ok (.iconst 5, 1) := by decide +kernel
theorem dX11_serves_187 : decode cX11_serves 187 = .ok (.iadd, 1) := by decide +kernel
theorem dX11_serves_188 : decode cX11_serves 188 = .ok (.iaload, 1) := by decide +kernel
theorem dX11_serves_189 : decode cX11_serves 189 = .ok (.bipush 100, 2) := by decide +kernel
theorem dX11_serves_191 : decode cX11_serves 191 = .ok (.if_icmp .lt 20, 3) := by decide +kernel
theorem dX11_serves_194 : decode cX11_serves 194 = .ok (.aload_n 0, 1) := by decide +kernel
theorem dX11_serves_195 : decode cX11_serves 195 = .ok (.iload_n 1, 1) := by decide +kernel
theorem dX11_serves_196 : decode cX11_serves 196 = .ok (.invokevirtual 127, 3) := by decide +kernel
theorem dX11_serves_199 : decode cX11_serves 199 = .ok (.iload 6, 2) := by decide +kernel
theorem dX11_serves_201 : decode cX11_serves 201 = .ok (.iconst (-1), 1) := by decide +kernel
theorem dX11_serves_202 : decode cX11_serves 202 = .ok (.ixor, 1) := by decide +kernel
theorem dX11_serves_203 : decode cX11_serves 203 = .ok (.iand, 1) := by decide +kernel
theorem dX11_serves_204 : decode cX11_serves 204 = .ok (.ifCond .eq 7, 3) := by decide +kernel
theorem dX11_serves_207 : decode cX11_serves 207 = .ok (.iconst 1, 1) := by decide +kernel
theorem dX11_serves_208 : decode cX11_serves 208 = .ok (.goto 4, 3) := by decide +kernel
theorem dX11_serves_211 : decode cX11_serves 211 = .ok (.iconst 0, 1) := by decide +kernel
theorem dX11_serves_212 : decode cX11_serves 212 = .ok (.istore 9, 2) := by decide +kernel
theorem dX11_serves_214 : decode cX11_serves 214 = .ok (.iload 9, 2) := by decide +kernel
theorem dX11_serves_216 : decode cX11_serves 216 = .ok (.ifCond .ne 6, 3) := by decide +kernel
theorem dX11_serves_219 : decode cX11_serves 219 = .ok (.bipush (-6), 2) := by decide +kernel
theorem dX11_serves_221 : decode cX11_serves 221 = .ok (.ireturn, 1) := by decide +kernel
theorem dX11_serves_222 : decode cX11_serves 222 = .ok (.aload_n 0, 1) := by decide +kernel
theorem dX11_serves_223 : decode cX11_serves 223 = .ok (.getfield 9, 3) := by decide +kernel
theorem dX11_serves_226 : decode cX11_serves 226 = .ok (.iload 5, 2) := by decide +kernel
theorem dX11_serves_228 : decode cX11_serves 228 = .ok (.iconst 5, 1) := by decide +kernel
theorem dX11_serves_229 : decode cX11_serves 229 = .ok (.iadd, 1) := by decide +kernel
theorem dX11_serves_230 : decode cX11_serves 230 = .ok (.dup2, 1) := by decide +kernel
theorem dX11_serves_231 : decode cX11_serves 231 = .ok (.iaload, 1) := by decide +kernel
theorem dX11_serves_232 : decode cX11_serves 232 = .ok (.bipush 100, 2) := by decide +kernel
theorem dX11_serves_234 : decode cX11_serves 234 = .ok (.isub, 1) := by decide +kernel
theorem dX11_serves_235 : decode cX11_serves 235 = .ok (.iastore, 1) := by decide +kernel
theorem dX11_serves_236 : decode cX11_serves 236 = .ok (.goto (-146), 3) := by decide +kernel
theorem dX11_answers_0 : decode cX11_answers 0 = .ok (.aload_n 0, 1) := by decide +kernel
theorem dX11_answers_1 : decode cX11_answers 1 = .ok (.getfield 9, 3) := by decide +kernel
theorem dX11_answers_4 : decode cX11_answers 4 = .ok (.sipush 706, 3) := by decide +kernel
theorem dX11_answers_7 : decode cX11_answers 7 = .ok (.iconst 0, 1) := by decide +kernel
theorem dX11_answers_8 : decode cX11_answers 8 = .ok (.iastore, 1) := by decide +kernel
theorem dX11_answers_9 : decode cX11_answers 9 = .ok (.aload_n 0, 1) := by decide +kernel
theorem dX11_answers_10 : decode cX11_answers 10 = .ok (.getfield 9, 3) := by decide +kernel
theorem dX11_answers_13 : decode cX11_answers 13 = .ok (.sipush 697, 3) := by decide +kernel
theorem dX11_answers_16 : decode cX11_answers 16 = .ok (.dup2, 1) := by decide +kernel
theorem dX11_answers_17 : decode cX11_answers 17 = .ok (.iaload, 1) := by decide +kernel
theorem dX11_answers_18 : decode cX11_answers 18 = .ok (.iconst 1, 1) := by decide +kernel
theorem dX11_answers_19 : decode cX11_answers 19 = .ok (.iadd, 1) := by decide +kernel
theorem dX11_answers_20 : decode cX11_answers 20 = .ok (.iastore, 1) := by decide +kernel
theorem dX11_answers_21 : decode cX11_answers 21 = .ok (.aload_n 0, 1) := by decide +kernel
theorem dX11_answers_22 : decode cX11_answers 22 = .ok (.iload_n 1, 1) := by decide +kernel
theorem dX11_answers_23 : decode cX11_answers 23 = .ok (.invokevirtual 117, 3) := by decide +kernel
theorem dX11_answers_26 : decode cX11_answers 26 = .ok (.istore_n 3, 1) := by decide +kernel
theorem dX11_answers_27 : decode cX11_answers 27 = .ok (.iload_n 3, 1) := by decide +kernel
theorem dX11_answers_28 : decode cX11_answers 28 = .ok (.ifCond .ge 18, 3) := by decide +kernel
theorem dX11_answers_31 : decode cX11_answers 31 = .ok (.aload_n 0, 1) := by decide +kernel
theorem dX11_answers_32 : decode cX11_answers 32 = .ok (.getfield 9, 3) := by decide +kernel
theorem dX11_answers_35 : decode cX11_answers 35 = .ok (.sipush 699, 3) := by decide +kernel
theorem dX11_answers_38 : decode cX11_answers 38 = .ok (.dup2, 1) := by decide +kernel
theorem dX11_answers_39 : decode cX11_answers 39 = .ok (.iaload, 1) := by decide +kernel
theorem dX11_answers_40 : decode cX11_answers 40 = .ok (.iconst 1, 1) := by decide +kernel
theorem dX11_answers_41 : decode cX11_answers 41 = .ok (.iadd, 1) := by decide +kernel
theorem dX11_answers_42 : decode cX11_answers 42 = .ok (.iastore, 1) := by decide +kernel
theorem dX11_answers_43 : decode cX11_answers 43 = .ok (.bipush (-4), 2) := by decide +kernel
theorem dX11_answers_45 : decode cX11_answers 45 = .ok (.ireturn, 1) := by decide +kernel
theorem dX11_answers_46 : decode cX11_answers 46 = .ok (.aload_n 0, 1) := by decide +kernel
theorem dX11_answers_47 : decode cX11_answers 47 = .ok (.iload_n 3, 1) := by decide +kernel
theorem dX11_answers_48 : decode cX11_answers 48 = .ok (.invokevirtual 153, 3) := by decide +kernel
theorem dX11_answers_51 : decode cX11_answers 51 = .ok (.istore 4, 2) := by decide +kernel
theorem dX11_answers_53 : decode cX11_answers 53 = .ok (.iload 4, 2) := by decide +kernel
theorem dX11_answers_55 : decode cX11_answers 55 = .ok (.ifCond .ge 8, 3) := by decide +kernel
theorem dX11_answers_58 : decode cX11_answers 58 = .ok (.bipush (-5), 2) := by decide +kernel
theorem dX11_answers_60 : decode cX11_answers 60 = .ok (.goto 31, 3) := by decide +kernel
theorem dX11_answers_63 : decode cX11_answers 63 = .ok (.aload_n 0, 1) := by decide +kernel
theorem dX11_answers_64 : decode cX11_answers 64 = .ok (.aload_n 0, 1) := by decide +kernel
theorem dX11_answers_65 : decode cX11_answers 65 = .ok (.getfield 9, 3) := by decide +kernel
theorem dX11_answers_68 : decode cX11_answers 68 = .ok (.sipush 231, 3) := by decide +kernel
theorem dX11_answers_71 : decode cX11_answers 71 = .ok (.bipush 58, 2) := by decide +kernel
theorem dX11_answers_73 : decode cX11_answers 73 = .ok (.iload_n 3, 1) := by decide +kernel
theorem dX11_answers_74 : decode cX11_answers 74 = .ok (.imul, 1) := by decide +kernel
theorem dX11_answers_75 : decode cX11_answers 75 = .ok (.iadd, 1) := by decide +kernel
theorem dX11_answers_76 : decode cX11_answers 76 = .ok (.bipush 44, 2) := by decide +kernel
theorem dX11_answers_78 : decode cX11_answers 78 = .ok (.iadd, 1) := by decide +kernel
theorem dX11_answers_79 : decode cX11_answers 79 = .ok (.iconst 4, 1) := by decide +kernel
theorem dX11_answers_80 : decode cX11_answers 80 = .ok (.iload 4, 2) := by decide +kernel
theorem dX11_answers_82 : decode cX11_answers 82 = .ok (.imul, 1) := by decide +kernel
theorem dX11_answers_83 : decode cX11_answers 83 = .ok (.iadd, 1) := by decide +kernel
theorem dX11_answers_84 : decode cX11_answers 84 = .ok (.iaload, 1) := by decide +kernel
theorem dX11_answers_85 : decode cX11_answers 85 = .ok (.iload_n 3, 1) := by decide +kernel
theorem dX11_answers_86 : decode cX11_answers 86 = .ok (.iload_n 1, 1) := by decide +kernel
theorem dX11_answers_87 : decode cX11_answers 87 = .ok (.iload_n 2, 1) := by decide +kernel
theorem dX11_answers_88 : decode cX11_answers 88 = .ok (.invokevirtual 156, 3) := by decide +kernel
theorem dX11_answers_91 : decode cX11_answers 91 = .ok (.istore 5, 2) := by decide +kernel
theorem dX11_answers_93 : decode cX11_answers 93 = .ok (.aload_n 0, 1) := by decide +kernel
theorem dX11_answers_94 : decode cX11_answers 94 = .ok (.getfield 9, 3) := by decide +kernel
theorem dX11_answers_97 : decode cX11_answers 97 = .ok (.sipush 695, 3) := by decide +kernel
theorem dX11_answers_100 : decode cX11_answers 100 = .ok (.iload 5, 2) := by decide +kernel
theorem dX11_answers_102 : decode cX11_answers 102 = .ok (.ifCond .lt 7, 3) := by decide +kernel
theorem dX11_answers_105 : decode cX11_answers 105 = .ok (.iconst 3, 1) := by decide +kernel
theorem dX11_answers_106 : decode cX11_answers 106 = .ok (.goto 16, 3) := by decide +kernel
theorem dX11_answers_109 : decode cX11_answers 109 = .ok (.iload 5, 2) := by decide +kernel
theorem dX11_answers_111 : decode cX11_answers 111 = .ok (.bipush (-5), 2) := by decide +kernel
theorem dX11_answers_113 : decode cX11_answers 113 = .ok (.if_icmp .ne 7, 3) := by decide +kernel
theorem dX11_answers_116 : decode cX11_answers 116 = .ok (.iconst 5, 1) := by decide +kernel
theorem dX11_answers_117 : decode cX11_answers 117 = .ok (.goto 5, 3) := by decide +kernel
theorem dX11_answers_120 : decode cX11_answers 120 = .ok (.bipush 6, 2) := by decide +kernel
theorem dX11_answers_122 : decode cX11_answers 122 = .ok (.iadd, 1) := by decide +kernel
theorem dX11_answers_123 : decode cX11_answers 123 = .ok (.dup2, 1) := by decide +kernel
theorem dX11_answers_124 : decode cX11_answers 124 = .ok (.iaload, 1) := by decide +kernel
theorem dX11_answers_125 : decode cX11_answers 125 = .ok (.iconst 1, 1) := by decide +kernel
theorem dX11_answers_126 : decode cX11_answers 126 = .ok (.iadd, 1) := by decide +kernel
theorem dX11_answers_127 : decode cX11_answers 127 = .ok (.iastore, 1) := by decide +kernel
theorem dX11_answers_128 : decode cX11_answers 128 = .ok (.aload_n 0, 1) := by decide +kernel
theorem dX11_answers_129 : decode cX11_answers 129 = .ok (.getfield 9, 3) := by decide +kernel
theorem dX11_answers_132 : decode cX11_answers 132 = .ok (.sipush 231, 3) := by decide +kernel
theorem dX11_answers_135 : decode cX11_answers 135 = .ok (.bipush 58, 2) := by decide +kernel
theorem dX11_answers_137 : decode cX11_answers 137 = .ok (.iload_n 3, 1) := by decide +kernel
theorem dX11_answers_138 : decode cX11_answers 138 = .ok (.imul, 1) := by decide +kernel
theorem dX11_answers_139 : decode cX11_answers 139 = .ok (.iadd, 1) := by decide +kernel
theorem dX11_answers_140 : decode cX11_answers 140 = .ok (.bipush 57, 2) := by decide +kernel
theorem dX11_answers_142 : decode cX11_answers 142 = .ok (.iadd, 1) := by decide +kernel
theorem dX11_answers_143 : decode cX11_answers 143 = .ok (.iaload, 1) := by decide +kernel
theorem dX11_answers_144 : decode cX11_answers 144 = .ok (.istore 6, 2) := by decide +kernel
theorem dX11_answers_146 : decode cX11_answers 146 = .ok (.iload 6, 2) := by decide +kernel
theorem dX11_answers_148 : decode cX11_answers 148 = .ok (.ifCond .lt 16, 3) := by decide +kernel
theorem dX11_answers_151 : decode cX11_answers 151 = .ok (.aload_n 0, 1) := by decide +kernel
theorem dX11_answers_152 : decode cX11_answers 152 = .ok (.getfield 37, 3) := by decide +kernel
theorem dX11_answers_155 : decode cX11_answers 155 = .ok (.ifCond .eq 9, 3) := by decide +kernel
theorem dX11_answers_158 : decode cX11_answers 158 = .ok (.aload_n 0, 1) := by decide +kernel
theorem dX11_answers_159 : decode cX11_answers 159 = .ok (.iload 6, 2) := by decide +kernel
theorem dX11_answers_161 : decode cX11_answers 161 = .ok (.invokevirtual 159, 3) := by decide +kernel
theorem dX11_answers_164 : decode cX11_answers 164 = .ok (.iload 5, 2) := by decide +kernel
theorem dX11_answers_166 : decode cX11_answers 166 = .ok (.ireturn, 1) := by decide +kernel
theorem dX11_refuses_0 : decode cX11_refuses 0 = .ok (.iload_n 1, 1) := by decide +kernel
theorem dX11_refuses_1 : decode cX11_refuses 1 = .ok (.iconst 0, 1) := by decide +kernel
theorem dX11_refuses_2 : decode cX11_refuses 2 = .ok (.bipush 9, 2) := by decide +kernel
theorem dX11_refuses_4 : decode cX11_refuses 4 = .ok (.invokestatic 44, 3) := by decide +kernel
theorem dX11_refuses_7 : decode cX11_refuses 7 = .ok (.ifCond .eq 12, 3) := by decide +kernel
theorem dX11_refuses_10 : decode cX11_refuses 10 = .ok (.iload_n 2, 1) := by decide +kernel
theorem dX11_refuses_11 : decode cX11_refuses 11 = .ok (.iconst 0, 1) := by decide +kernel
theorem dX11_refuses_12 : decode cX11_refuses 12 = .ok (.iconst 2, 1) := by decide +kernel
theorem dX11_refuses_13 : decode cX11_refuses 13 = .ok (.invokestatic 44, 3) := by decide +kernel
theorem dX11_refuses_16 : decode cX11_refuses 16 = .ok (.ifCond .ne 8, 3) := by decide +kernel
theorem dX11_refuses_19 : decode cX11_refuses 19 = .ok (.bipush (-2), 2) := by decide +kernel
theorem dX11_refuses_21 : decode cX11_refuses 21 = .ok (.goto 16, 3) := by decide +kernel
theorem dX11_refuses_24 : decode cX11_refuses 24 = .ok (.aload_n 0, 1) := by decide +kernel
theorem dX11_refuses_25 : decode cX11_refuses 25 = .ok (.invokevirtual 113, 3) := by decide +kernel
theorem dX11_refuses_28 : decode cX11_refuses 28 = .ok (.ifCond .ne 8, 3) := by decide +kernel
theorem dX11_refuses_31 : decode cX11_refuses 31 = .ok (.bipush (-7), 2) := by decide +kernel
theorem dX11_refuses_33 : decode cX11_refuses 33 = .ok (.goto 4, 3) := by decide +kernel
theorem dX11_refuses_36 : decode cX11_refuses 36 = .ok (.iconst 0, 1) := by decide +kernel
theorem dX11_refuses_37 : decode cX11_refuses 37 = .ok (.ireturn, 1) := by decide +kernel
theorem dX11_request_0 : decode cX11_request 0 = .ok (.aload_n 0, 1) := by decide +kernel
theorem dX11_request_1 : decode cX11_request 1 = .ok (.iload_n 1, 1) := by decide +kernel
theorem dX11_request_2 : decode cX11_request 2 = .ok (.iload_n 2, 1) := by decide +kernel
theorem dX11_request_3 : decode cX11_request 3 = .ok (.invokevirtual 162, 3) := by decide +kernel
theorem dX11_request_6 : decode cX11_request 6 = .ok (.istore_n 3, 1) := by decide +kernel
theorem dX11_request_7 : decode cX11_request 7 = .ok (.iload_n 3, 1) := by decide +kernel
theorem dX11_request_8 : decode cX11_request 8 = .ok (.ifCond .ge 10, 3) := by decide +kernel
theorem dX11_request_11 : decode cX11_request 11 = .ok (.aload_n 0, 1) := by decide +kernel
theorem dX11_request_12 : decode cX11_request 12 = .ok (.iconst 0, 1) := by decide +kernel
theorem dX11_request_13 : decode cX11_request 13 = .ok (.putfield 74, 3) := by decide +kernel
theorem dX11_request_16 : decode cX11_request 16 = .ok (.iload_n 3, 1) := by decide +kernel
theorem dX11_request_17 : decode cX11_request 17 = .ok (.ireturn, 1) := by decide +kernel
theorem dX11_request_18 : decode cX11_request 18 = .ok (.aload_n 0, 1) := by decide +kernel
theorem dX11_request_19 : decode cX11_request 19 = .ok (.iload_n 1, 1) := by decide +kernel
theorem dX11_request_20 : decode cX11_request 20 = .ok (.iload_n 2, 1) := by decide +kernel
theorem dX11_request_21 : decode cX11_request 21 = .ok (.invokevirtual 165, 3) := by decide +kernel
theorem dX11_request_24 : decode cX11_request 24 = .ok (.istore 4, 2) := by decide +kernel
theorem dX11_request_26 : decode cX11_request 26 = .ok (.aload_n 0, 1) := by decide +kernel
theorem dX11_request_27 : decode cX11_request 27 = .ok (.getfield 48, 3) := by decide +kernel
theorem dX11_request_30 : decode cX11_request 30 = .ok (.ifCond .eq 16, 3) := by decide +kernel
theorem dX11_request_33 : decode cX11_request 33 = .ok (.aload_n 0, 1) := by decide +kernel
theorem dX11_request_34 : decode cX11_request 34 = .ok (.getfield 52, 3) := by decide +kernel
theorem dX11_request_37 : decode cX11_request 37 = .ok (.bipush 60, 2) := by decide +kernel
theorem dX11_request_39 : decode cX11_request 39 = .ok (.if_icmp .ne 7, 3) := by decide +kernel
theorem dX11_request_42 : decode cX11_request 42 = .ok (.aload_n 0, 1) := by decide +kernel
theorem dX11_request_43 : decode cX11_request 43 = .ok (.invokevirtual 55, 3) := by decide +kernel
theorem dX11_request_46 : decode cX11_request 46 = .ok (.aload_n 0, 1) := by decide +kernel
theorem dX11_request_47 : decode cX11_request 47 = .ok (.getfield 48, 3) := by decide +kernel
theorem dX11_request_50 : decode cX11_request 50 = .ok (.ifCond .eq 103, 3) := by decide +kernel
theorem dX11_request_53 : decode cX11_request 53 = .ok (.iconst 4, 1) := by decide +kernel
theorem dX11_request_54 : decode cX11_request 54 = .ok (.aload_n 0, 1) := by decide +kernel
theorem dX11_request_55 : decode cX11_request 55 = .ok (.getfield 52, 3) := by decide +kernel
theorem dX11_request_58 : decode cX11_request 58 = .ok (.imul, 1) := by decide +kernel
theorem dX11_request_59 : decode cX11_request 59 = .ok (.istore 5, 2) := by decide +kernel
theorem dX11_request_61 : decode cX11_request 61 = .ok (.aload_n 0, 1) := by decide +kernel
theorem dX11_request_62 : decode cX11_request 62 = .ok (.getfield 25, 3) := by decide +kernel
theorem dX11_request_65 : decode cX11_request 65 = .ok (.iload 5, 2) := by decide +kernel
theorem dX11_request_67 : decode cX11_request 67 = .ok (.aload_n 0, 1) := by decide +kernel
theorem dX11_request_68 : decode cX11_request 68 = .ok (.getfield 74, 3) := by decide +kernel
theorem dX11_request_71 : decode cX11_request 71 = .ok (.iastore, 1) := by decide +kernel
theorem dX11_request_72 : decode cX11_request 72 = .ok (.aload_n 0, 1) := by decide +kernel
theorem dX11_request_73 : decode cX11_request 73 = .ok (.getfield 25, 3) := by decide +kernel
theorem dX11_request_76 : decode cX11_request 76 = .ok (.iload 5, 2) := by decide +kernel
theorem dX11_request_78 : decode cX11_request 78 = .ok (.iconst 1, 1) := by decide +kernel
theorem dX11_request_79 : decode cX11_request 79 = .ok (.iadd, 1) := by decide +kernel
theorem dX11_request_80 : decode cX11_request 80 = .ok (.iload_n 1, 1) := by decide +kernel
theorem dX11_request_81 : decode cX11_request 81 = .ok (.iastore, 1) := by decide +kernel
theorem dX11_request_82 : decode cX11_request 82 = .ok (.aload_n 0, 1) := by decide +kernel
theorem dX11_request_83 : decode cX11_request 83 = .ok (.getfield 25, 3) := by decide +kernel
theorem dX11_request_86 : decode cX11_request 86 = .ok (.iload 5, 2) := by decide +kernel
theorem dX11_request_88 : decode cX11_request 88 = .ok (.iconst 2, 1) := by decide +kernel
theorem dX11_request_89 : decode cX11_request 89 = .ok (.iadd, 1) := by decide +kernel
theorem dX11_request_90 : decode cX11_request 90 = .ok (.iload_n 2, 1) := by decide +kernel
theorem dX11_request_91 : decode cX11_request 91 = .ok (.iastore, 1) := by decide +kernel
theorem dX11_request_92 : decode cX11_request 92 = .ok (.aload_n 0, 1) := by decide +kernel
theorem dX11_request_93 : decode cX11_request 93 = .ok (.getfield 25, 3) := by decide +kernel
theorem dX11_request_96 : decode cX11_request 96 = .ok (.iload 5, 2) := by decide +kernel
theorem dX11_request_98 : decode cX11_request 98 = .ok (.iconst 3, 1) := by decide +kernel
theorem dX11_request_99 : decode cX11_request 99 = .ok (.iadd, 1) := by decide +kernel
theorem dX11_request_100 : decode cX11_request 100 = .ok (.iload 4, 2) := by decide +kernel
theorem dX11_request_102 : decode cX11_request 102 = .ok (.iastore, 1) := by decide +kernel
theorem dX11_request_103 : decode cX11_request 103 = .ok (.iconst 0, 1) := by decide +kernel
theorem dX11_request_104 : decode cX11_request 104 = .ok (.istore 6, 2) := by decide +kernel
theorem dX11_request_106 : decode cX11_request 106 = .ok (.iload 6, 2) := by decide +kernel
theorem dX11_request_108 : decode cX11_request 108 = .ok (.aload_n 0, 1) := by decide +kernel
theorem dX11_request_109 : decode cX11_request 109 = .ok (.getfield 74, 3) := by decide +kernel
theorem dX11_request_112 : decode cX11_request 112 = .ok (.if_icmp .ge 31, 3) := by decide +kernel
theorem dX11_request_115 : decode cX11_request 115 = .ok (.aload_n 0, 1) := by decide +kernel
theorem dX11_request_116 : decode cX11_request 116 = .ok (.getfield 28, 3) := by decide +kernel
theorem dX11_request_119 : decode cX11_request 119 = .ok (.bipush 40, 2) := by decide +kernel
theorem dX11_request_121 : decode cX11_request 121 = .ok (.aload_n 0, 1) := by decide +kernel
theorem dX11_request_122 : decode cX11_request 122 = .ok (.getfield 52, 3) := by decide +kernel
theorem dX11_request_125 : decode cX11_request 125 = .ok (.imul, 1) := by decide +kernel
theorem dX11_request_126 : decode cX11_request 126 = .ok (.iload 6, 2) := by decide +kernel
theorem dX11_request_128 : decode cX11_request 128 = .ok (.iadd, 1) := by decide +kernel
theorem dX11_request_129 : decode cX11_request 129 = .ok (.aload_n 0, 1) := by decide +kernel
theorem dX11_request_130 : decode cX11_request 130 = .ok (.getfield 22, 3) := by decide +kernel
theorem dX11_request_133 : decode cX11_request 133 = .ok (.iload 6, 2) := by decide +kernel
theorem dX11_request_135 : decode cX11_request 135 = .ok (.iaload, 1) := by decide +kernel
theorem dX11_request_136 : decode cX11_request 136 = .ok (.iastore, 1) := by decide +kernel
theorem dX11_request_137 : decode cX11_request 137 = .ok (.iinc 6 1, 3) := by decide +kernel
theorem dX11_request_140 : decode cX11_request 140 = .ok (.goto (-34), 3) := by decide +kernel
theorem dX11_request_143 : decode cX11_request 143 = .ok (.aload_n 0, 1) := by decide +kernel
theorem dX11_request_144 : decode cX11_request 144 = .ok (.dup, 1) := by decide +kernel
theorem dX11_request_145 : decode cX11_request 145 = .ok (.getfield 52, 3) := by decide +kernel
theorem dX11_request_148 : decode cX11_request 148 = .ok (.iconst 1, 1) := by decide +kernel
theorem dX11_request_149 : decode cX11_request 149 = .ok (.iadd, 1) := by decide +kernel
theorem dX11_request_150 : decode cX11_request 150 = .ok (.putfield 52, 3) := by decide +kernel
theorem dX11_request_153 : decode cX11_request 153 = .ok (.aload_n 0, 1) := by decide +kernel
theorem dX11_request_154 : decode cX11_request 154 = .ok (.iconst 0, 1) := by decide +kernel
theorem dX11_request_155 : decode cX11_request 155 = .ok (.putfield 74, 3) := by decide +kernel
theorem dX11_request_158 : decode cX11_request 158 = .ok (.iload 4, 2) := by decide +kernel
theorem dX11_request_160 : decode cX11_request 160 = .ok (.ireturn, 1) := by decide +kernel
theorem dX11_foresee_0 : decode cX11_foresee 0 = .ok (.aload_n 0, 1) := by decide +kernel
theorem dX11_foresee_1 : decode cX11_foresee 1 = .ok (.iload_n 1, 1) := by decide +kernel
theorem dX11_foresee_2 : decode cX11_foresee 2 = .ok (.iload_n 2, 1) := by decide +kernel
theorem dX11_foresee_3 : decode cX11_foresee 3 = .ok (.invokevirtual 162, 3) := by decide +kernel
theorem dX11_foresee_6 : decode cX11_foresee 6 = .ok (.istore_n 3, 1) := by decide +kernel
theorem dX11_foresee_7 : decode cX11_foresee 7 = .ok (.iload_n 3, 1) := by decide +kernel
theorem dX11_foresee_8 : decode cX11_foresee 8 = .ok (.ifCond .ge 5, 3) := by decide +kernel
theorem dX11_foresee_11 : decode cX11_foresee 11 = .ok (.iload_n 3, 1) := by decide +kernel
theorem dX11_foresee_12 : decode cX11_foresee 12 = .ok (.ireturn, 1) := by decide +kernel
theorem dX11_foresee_13 : decode cX11_foresee 13 = .ok (.aload_n 0, 1) := by decide +kernel
theorem dX11_foresee_14 : decode cX11_foresee 14 = .ok (.getfield 9, 3) := by decide +kernel
theorem dX11_foresee_17 : decode cX11_foresee 17 = .ok (.aload_n 0, 1) := by decide +kernel
theorem dX11_foresee_18 : decode cX11_foresee 18 = .ok (.getfield 19, 3) := by decide +kernel
theorem dX11_foresee_21 : decode cX11_foresee 21 = .ok (.invokestatic 168, 3) := by decide +kernel
theorem dX11_foresee_24 : decode cX11_foresee 24 = .ok (.aload_n 0, 1) := by decide +kernel
theorem dX11_foresee_25 : decode cX11_foresee 25 = .ok (.iload_n 1, 1) := by decide +kernel
theorem dX11_foresee_26 : decode cX11_foresee 26 = .ok (.iload_n 2, 1) := by decide +kernel
theorem dX11_foresee_27 : decode cX11_foresee 27 = .ok (.invokevirtual 165, 3) := by decide +kernel
theorem dX11_foresee_30 : decode cX11_foresee 30 = .ok (.istore 4, 2) := by decide +kernel
theorem dX11_foresee_32 : decode cX11_foresee 32 = .ok (.aload_n 0, 1) := by decide +kernel
theorem dX11_foresee_33 : decode cX11_foresee 33 = .ok (.getfield 19, 3) := by decide +kernel
theorem dX11_foresee_36 : decode cX11_foresee 36 = .ok (.aload_n 0, 1) := by decide +kernel
theorem dX11_foresee_37 : decode cX11_foresee 37 = .ok (.getfield 9, 3) := by decide +kernel
theorem dX11_foresee_40 : decode cX11_foresee 40 = .ok (.invokestatic 168, 3) := by decide +kernel
theorem dX11_foresee_43 : decode cX11_foresee 43 = .ok (.iload 4, 2) := by decide +kernel
theorem dX11_foresee_45 : decode cX11_foresee 45 = .ok (.ireturn, 1) := by decide +kernel
theorem dX11_ticks_0 : decode cX11_ticks 0 = .ok (.aload_n 0, 1) := by decide +kernel
theorem dX11_ticks_1 : decode cX11_ticks 1 = .ok (.getfield 9, 3) := by decide +kernel
theorem dX11_ticks_4 : decode cX11_ticks 4 = .ok (.sipush 705, 3) := by decide +kernel
theorem dX11_ticks_7 : decode cX11_ticks 7 = .ok (.dup2, 1) := by decide +kernel
theorem dX11_ticks_8 : decode cX11_ticks 8 = .ok (.iaload, 1) := by decide +kernel
theorem dX11_ticks_9 : decode cX11_ticks 9 = .ok (.iconst 1, 1) := by decide +kernel
theorem dX11_ticks_10 : decode cX11_ticks 10 = .ok (.iadd, 1) := by decide +kernel
theorem dX11_ticks_11 : decode cX11_ticks 11 = .ok (.iastore, 1) := by decide +kernel
theorem dX11_ticks_12 : decode cX11_ticks 12 = .ok (.iconst 0, 1) := by decide +kernel
theorem dX11_ticks_13 : decode cX11_ticks 13 = .ok (.istore_n 1, 1) := by decide +kernel
theorem dX11_ticks_14 : decode cX11_ticks 14 = .ok (.iload_n 1, 1) := by decide +kernel
theorem dX11_ticks_15 : decode cX11_ticks 15 = .ok (.aload_n 0, 1) := by decide +kernel
theorem dX11_ticks_16 : decode cX11_ticks 16 = .ok (.getfield 9, 3) := by decide +kernel
theorem dX11_ticks_19 : decode cX11_ticks 19 = .ok (.sipush 144, 3) := by decide +kernel
theorem dX11_ticks_22 : decode cX11_ticks 22 = .ok (.iaload, 1) := by decide +kernel
theorem dX11_ticks_23 : decode cX11_ticks 23 = .ok (.if_icmp .ge 39, 3) := by decide +kernel
theorem dX11_ticks_26 : decode cX11_ticks 26 = .ok (.aload_n 0, 1) := by decide +kernel
theorem dX11_ticks_27 : decode cX11_ticks 27 = .ok (.iload_n 1, 1) := by decide +kernel
theorem dX11_ticks_28 : decode cX11_ticks 28 = .ok (.bipush 9, 2) := by decide +kernel
theorem dX11_ticks_30 : decode cX11_ticks 30 = .ok (.aload_n 0, 1) := by decide +kernel
theorem dX11_ticks_31 : decode cX11_ticks 31 = .ok (.iload_n 1, 1) := by decide +kernel
theorem dX11_ticks_32 : decode cX11_ticks 32 = .ok (.bipush 9, 2) := by decide +kernel
theorem dX11_ticks_34 : decode cX11_ticks 34 = .ok (.invokevirtual 66, 3) := by decide +kernel
theorem dX11_ticks_37 : decode cX11_ticks 37 = .ok (.ifCond .le 15, 3) := by decide +kernel
theorem dX11_ticks_40 : decode cX11_ticks 40 = .ok (.aload_n 0, 1) := by decide +kernel
theorem dX11_ticks_41 : decode cX11_ticks 41 = .ok (.iload_n 1, 1) := by decide +kernel
theorem dX11_ticks_42 : decode cX11_ticks 42 = .ok (.bipush 9, 2) := by decide +kernel
theorem dX11_ticks_44 : decode cX11_ticks 44 = .ok (.invokevirtual 66, 3) := by decide +kernel
theorem dX11_ticks_47 : decode cX11_ticks 47 = .ok (.iconst 1, 1) := by decide +kernel
theorem dX11_ticks_48 : decode cX11_ticks 48 = .ok (.isub, 1) := by decide +kernel
theorem dX11_ticks_49 : decode cX11_ticks 49 = .ok (.goto 4, 3) := by decide +kernel
theorem dX11_ticks_52 : decode cX11_ticks 52 = .ok (.iconst 0, 1) := by decide +kernel
theorem dX11_ticks_53 : decode cX11_ticks 53 = .ok (.invokevirtual 58, 3) := by decide +kernel
theorem dX11_ticks_56 : decode cX11_ticks 56 = .ok (.iinc 1 1, 3) := by decide +kernel
theorem dX11_ticks_59 : decode cX11_ticks 59 = .ok (.goto (-45), 3) := by decide +kernel
theorem dX11_ticks_62 : decode cX11_ticks 62 = .ok (.return_, 1) := by decide +kernel
theorem dX11_tick_0 : decode cX11_tick 0 = .ok (.iload_n 1, 1) := by decide +kernel
theorem dX11_tick_1 : decode cX11_tick 1 = .ok (.iconst 1, 1) := by decide +kernel
theorem dX11_tick_2 : decode cX11_tick 2 = .ok (.bipush 50, 2) := by decide +kernel
theorem dX11_tick_4 : decode cX11_tick 4 = .ok (.invokestatic 44, 3) := by decide +kernel
theorem dX11_tick_7 : decode cX11_tick 7 = .ok (.ifCond .ne 6, 3) := by decide +kernel
theorem dX11_tick_10 : decode cX11_tick 10 = .ok (.bipush (-2), 2) := by decide +kernel
theorem dX11_tick_12 : decode cX11_tick 12 = .ok (.ireturn, 1) := by decide +kernel
theorem dX11_tick_13 : decode cX11_tick 13 = .ok (.aload_n 0, 1) := by decide +kernel
theorem dX11_tick_14 : decode cX11_tick 14 = .ok (.getfield 48, 3) := by decide +kernel
theorem dX11_tick_17 : decode cX11_tick 17 = .ok (.ifCond .eq 18, 3) := by decide +kernel
theorem dX11_tick_20 : decode cX11_tick 20 = .ok (.aload_n 0, 1) := by decide +kernel
theorem dX11_tick_21 : decode cX11_tick 21 = .ok (.getfield 52, 3) := by decide +kernel
theorem dX11_tick_24 : decode cX11_tick 24 = .ok (.iload_n 1, 1) := by decide +kernel
theorem dX11_tick_25 : decode cX11_tick 25 = .ok (.iadd, 1) := by decide +kernel
theorem dX11_tick_26 : decode cX11_tick 26 = .ok (.bipush 60, 2) := by decide +kernel
theorem dX11_tick_28 : decode cX11_tick 28 = .ok (.if_icmp .le 7, 3) := by decide +kernel
theorem dX11_tick_31 : decode cX11_tick 31 = .ok (.aload_n 0, 1) := by decide +kernel
theorem dX11_tick_32 : decode cX11_tick 32 = .ok (.invokevirtual 55, 3) := by decide +kernel
theorem dX11_tick_35 : decode cX11_tick 35 = .ok (.iconst 0, 1) := by decide +kernel
theorem dX11_tick_36 : decode cX11_tick 36 = .ok (.istore_n 2, 1) := by decide +kernel
theorem dX11_tick_37 : decode cX11_tick 37 = .ok (.iload_n 2, 1) := by decide +kernel
theorem dX11_tick_38 : decode cX11_tick 38 = .ok (.iload_n 1, 1) := by decide +kernel
theorem dX11_tick_39 : decode cX11_tick 39 = .ok (.if_icmp .ge 45, 3) := by decide +kernel
theorem dX11_tick_42 : decode cX11_tick 42 = .ok (.aload_n 0, 1) := by decide +kernel
theorem dX11_tick_43 : decode cX11_tick 43 = .ok (.invokevirtual 172, 3) := by decide +kernel
theorem dX11_tick_46 : decode cX11_tick 46 = .ok (.aload_n 0, 1) := by decide +kernel
theorem dX11_tick_47 : decode cX11_tick 47 = .ok (.getfield 48, 3) := by decide +kernel
theorem dX11_tick_50 : decode cX11_tick 50 = .ok (.ifCond .ne 6, 3) := by decide +kernel
theorem dX11_tick_53 : decode cX11_tick 53 = .ok (.goto 25, 3) := by decide +kernel
theorem dX11_tick_56 : decode cX11_tick 56 = .ok (.aload_n 0, 1) := by decide +kernel
theorem dX11_tick_57 : decode cX11_tick 57 = .ok (.getfield 25, 3) := by decide +kernel
theorem dX11_tick_60 : decode cX11_tick 60 = .ok (.iconst 4, 1) := by decide +kernel
theorem dX11_tick_61 : decode cX11_tick 61 = .ok (.aload_n 0, 1) := by decide +kernel
theorem dX11_tick_62 : decode cX11_tick 62 = .ok (.getfield 52, 3) := by decide +kernel
theorem dX11_tick_65 : decode cX11_tick 65 = .ok (.imul, 1) := by decide +kernel
theorem dX11_tick_66 : decode cX11_tick 66 = .ok (.iconst (-1), 1) := by decide +kernel
theorem dX11_tick_67 : decode cX11_tick 67 = .ok (.iastore, 1) := by decide +kernel
theorem dX11_tick_68 : decode cX11_tick 68 = .ok (.aload_n 0, 1) := by decide +kernel
theorem dX11_tick_69 : decode cX11_tick 69 = .ok (.dup, 1) := by decide +kernel
theorem dX11_tick_70 : decode cX11_tick 70 = .ok (.getfield 52, 3) := by decide +kernel
theorem dX11_tick_73 : decode cX11_tick 73 = .ok (.iconst 1, 1) := by decide +kernel
theorem dX11_tick_74 : decode cX11_tick 74 = .ok (.iadd, 1) := by decide +kernel
theorem dX11_tick_75 : decode cX11_tick 75 = .ok (.putfield 52, 3) := by decide +kernel
theorem dX11_tick_78 : decode cX11_tick 78 = .ok (.iinc 2 1, 3) := by decide +kernel
theorem dX11_tick_81 : decode cX11_tick 81 = .ok (.goto (-44), 3) := by decide +kernel
theorem dX11_tick_84 : decode cX11_tick 84 = .ok (.aload_n 0, 1) := by decide +kernel
theorem dX11_tick_85 : decode cX11_tick 85 = .ok (.getfield 9, 3) := by decide +kernel
theorem dX11_tick_88 : decode cX11_tick 88 = .ok (.sipush 705, 3) := by decide +kernel
theorem dX11_tick_91 : decode cX11_tick 91 = .ok (.iaload, 1) := by decide +kernel
theorem dX11_tick_92 : decode cX11_tick 92 = .ok (.ireturn, 1) := by decide +kernel
theorem dX11_backend_0 : decode cX11_backend 0 = .ok (.aload_n 0, 1) := by decide +kernel
theorem dX11_backend_1 : decode cX11_backend 1 = .ok (.iload_n 1, 1) := by decide +kernel
theorem dX11_backend_2 : decode cX11_backend 2 = .ok (.invokevirtual 62, 3) := by decide +kernel
theorem dX11_backend_5 : decode cX11_backend 5 = .ok (.ifCond .ne 7, 3) := by decide +kernel
theorem dX11_backend_8 : decode cX11_backend 8 = .ok (.iconst (-1), 1) := by decide +kernel
theorem dX11_backend_9 : decode cX11_backend 9 = .ok (.goto 24, 3) := by decide +kernel
theorem dX11_backend_12 : decode cX11_backend 12 = .ok (.iload_n 2, 1) := by decide +kernel
theorem dX11_backend_13 : decode cX11_backend 13 = .ok (.iconst 0, 1) := by decide +kernel
theorem dX11_backend_14 : decode cX11_backend 14 = .ok (.bipush 11, 2) := by decide +kernel
theorem dX11_backend_16 : decode cX11_backend 16 = .ok (.invokestatic 44, 3) := by decide +kernel
theorem dX11_backend_19 : decode cX11_backend 19 = .ok (.ifCond .ne 8, 3) := by decide +kernel
theorem dX11_backend_22 : decode cX11_backend 22 = .ok (.bipush (-2), 2) := by decide +kernel
theorem dX11_backend_24 : decode cX11_backend 24 = .ok (.goto 9, 3) := by decide +kernel
theorem dX11_backend_27 : decode cX11_backend 27 = .ok (.aload_n 0, 1) := by decide +kernel
theorem dX11_backend_28 : decode cX11_backend 28 = .ok (.iload_n 1, 1) := by decide +kernel
theorem dX11_backend_29 : decode cX11_backend 29 = .ok (.iload_n 2, 1) := by decide +kernel
theorem dX11_backend_30 : decode cX11_backend 30 = .ok (.invokevirtual 66, 3) := by decide +kernel
theorem dX11_backend_33 : decode cX11_backend 33 = .ok (.ireturn, 1) := by decide +kernel
theorem dX11_members_0 : decode cX11_members 0 = .ok (.iconst 0, 1) := by decide +kernel
theorem dX11_members_1 : decode cX11_members 1 = .ok (.istore_n 3, 1) := by decide +kernel
theorem dX11_members_2 : decode cX11_members 2 = .ok (.iconst 0, 1) := by decide +kernel
theorem dX11_members_3 : decode cX11_members 3 = .ok (.istore 4, 2) := by decide +kernel
theorem dX11_members_5 : decode cX11_members 5 = .ok (.iload 4, 2) := by decide +kernel
theorem dX11_members_7 : decode cX11_members 7 = .ok (.aload_n 0, 1) := by decide +kernel
theorem dX11_members_8 : decode cX11_members 8 = .ok (.getfield 9, 3) := by decide +kernel
theorem dX11_members_11 : decode cX11_members 11 = .ok (.sipush 144, 3) := by decide +kernel
theorem dX11_members_14 : decode cX11_members 14 = .ok (.iaload, 1) := by decide +kernel
theorem dX11_members_15 : decode cX11_members 15 = .ok (.if_icmp .ge 42, 3) := by decide +kernel
theorem dX11_members_18 : decode cX11_members 18 = .ok (.iload_n 3, 1) := by decide +kernel
theorem dX11_members_19 : decode cX11_members 19 = .ok (.aload_n 0, 1) := by decide +kernel
theorem dX11_members_20 : decode cX11_members 20 = .ok (.iload 4, 2) := by decide +kernel
theorem dX11_members_22 : decode cX11_members 22 = .ok (.iload_n 1, 1) := by decide +kernel
theorem dX11_members_23 : decode cX11_members 23 = .ok (.invokevirtual 121, 3) := by decide +kernel
theorem dX11_members_26 : decode cX11_members 26 = .ok (.ifCond .eq 22, 3) := by decide +kernel
theorem dX11_members_29 : decode cX11_members 29 = .ok (.iload_n 2, 1) := by decide +kernel
theorem dX11_members_30 : decode cX11_members 30 = .ok (.ifCond .eq 14, 3) := by decide +kernel
theorem dX11_members_33 : decode cX11_members 33 = .ok (.aload_n 0, 1) := by decide +kernel
theorem dX11_members_34 : decode cX11_members 34 = .ok (.iload 4, 2) := by decide +kernel
theorem dX11_members_36 : decode cX11_members 36 = .ok (.bipush 9, 2) := by decide +kernel
theorem dX11_members_38 : decode cX11_members 38 = .ok (.invokevirtual 66, 3) := by decide +kernel
theorem dX11_members_41 : decode cX11_members 41 = .ok (.ifCond .le 7, 3) := by decide +kernel
theorem dX11_members_44 : decode cX11_members 44 = .ok (.iconst 1, 1) := by decide +kernel
theorem dX11_members_45 : decode cX11_members 45 = .ok (.goto 4, 3) := by decide +kernel
theorem dX11_members_48 : decode cX11_members 48 = .ok (.iconst 0, 1) := by decide +kernel
theorem dX11_members_49 : decode cX11_members 49 = .ok (.iadd, 1) := by decide +kernel
theorem dX11_members_50 : decode cX11_members 50 = .ok (.istore_n 3, 1) := by decide +kernel
theorem dX11_members_51 : decode cX11_members 51 = .ok (.iinc 4 1, 3) := by decide +kernel
theorem dX11_members_54 : decode cX11_members 54 = .ok (.goto (-49), 3) := by decide +kernel
theorem dX11_members_57 : decode cX11_members 57 = .ok (.iload_n 3, 1) := by decide +kernel
theorem dX11_members_58 : decode cX11_members 58 = .ok (.ireturn, 1) := by decide +kernel
theorem dX11_service_0 : decode cX11_service 0 = .ok (.iload_n 1, 1) := by decide +kernel
theorem dX11_service_1 : decode cX11_service 1 = .ok (.iconst 0, 1) := by decide +kernel
theorem dX11_service_2 : decode cX11_service 2 = .ok (.iconst 3, 1) := by decide +kernel
theorem dX11_service_3 : decode cX11_service 3 = .ok (.invokestatic 44, 3) := by decide +kernel
theorem dX11_service_6 : decode cX11_service 6 = .ok (.ifCond .eq 13, 3) := by decide +kernel
theorem dX11_service_9 : decode cX11_service 9 = .ok (.iload_n 2, 1) := by decide +kernel
theorem dX11_service_10 : decode cX11_service 10 = .ok (.iconst 0, 1) := by decide +kernel
theorem dX11_service_11 : decode cX11_service 11 = .ok (.bipush 12, 2) := by decide +kernel
theorem dX11_service_13 : decode cX11_service 13 = .ok (.invokestatic 44, 3) := by decide +kernel
theorem dX11_service_16 : decode cX11_service 16 = .ok (.ifCond .ne 6, 3) := by decide +kernel
theorem dX11_service_19 : decode cX11_service 19 = .ok (.bipush (-2), 2) := by decide +kernel
theorem dX11_service_21 : decode cX11_service 21 = .ok (.ireturn, 1) := by decide +kernel
theorem dX11_service_22 : decode cX11_service 22 = .ok (.sipush 145, 3) := by decide +kernel
theorem dX11_service_25 : decode cX11_service 25 = .ok (.bipush 21, 2) := by decide +kernel
theorem dX11_service_27 : decode cX11_service 27 = .ok (.iload_n 1, 1) := by decide +kernel
theorem dX11_service_28 : decode cX11_service 28 = .ok (.imul, 1) := by decide +kernel
theorem dX11_service_29 : decode cX11_service 29 = .ok (.iadd, 1) := by decide +kernel
theorem dX11_service_30 : decode cX11_service 30 = .ok (.istore_n 3, 1) := by decide +kernel
theorem dX11_service_31 : decode cX11_service 31 = .ok (.iload_n 2, 1) := by decide +kernel
theorem dX11_service_32 : decode cX11_service 32 = .ok (.bipush 6, 2) := by decide +kernel
theorem dX11_service_34 : decode cX11_service 34 = .ok (.if_icmp .ge 14, 3) := by decide +kernel
theorem dX11_service_37 : decode cX11_service 37 = .ok (.aload_n 0, 1) := by decide +kernel
theorem dX11_service_38 : decode cX11_service 38 = .ok (.getfield 9, 3) := by decide +kernel
theorem dX11_service_41 : decode cX11_service 41 = .ok (.iload_n 3, 1) := by decide +kernel
theorem dX11_service_42 : decode cX11_service 42 = .ok (.iload_n 2, 1) := by decide +kernel
theorem dX11_service_43 : decode cX11_service 43 = .ok (.iadd, 1) := by decide +kernel
theorem dX11_service_44 : decode cX11_service 44 = .ok (.iaload, 1) := by decide +kernel
theorem dX11_service_45 : decode cX11_service 45 = .ok (.goto 38, 3) := by decide +kernel
theorem dX11_service_48 : decode cX11_service 48 = .ok (.iload_n 2, 1) := by decide +kernel
theorem dX11_service_49 : decode cX11_service 49 = .ok (.bipush 8, 2) := by decide +kernel
theorem dX11_service_51 : decode cX11_service 51 = .ok (.if_icmp .ge 22, 3) := by decide +kernel
theorem dX11_service_54 : decode cX11_service 54 = .ok (.aload_n 0, 1) := by decide +kernel
theorem dX11_service_55 : decode cX11_service 55 = .ok (.iload_n 1, 1) := by decide +kernel
theorem dX11_service_56 : decode cX11_service 56 = .ok (.iload_n 2, 1) := by decide +kernel
theorem dX11_service_57 : decode cX11_service 57 = .ok (.bipush 7, 2) := by decide +kernel
theorem dX11_service_59 : decode cX11_service 59 = .ok (.if_icmp .ne 7, 3) := by decide +kernel
theorem dX11_service_62 : decode cX11_service 62 = .ok (.iconst 1, 1) := by decide +kernel
theorem dX11_service_63 : decode cX11_service 63 = .ok (.goto 4, 3) := by decide +kernel
theorem dX11_service_66 : decode cX11_service 66 = .ok (.iconst 0, 1) := by decide +kernel
theorem dX11_service_67 : decode cX11_service 67 = .ok (.invokevirtual 175, 3) := by decide +kernel
theorem dX11_service_70 : decode cX11_service 70 = .ok (.goto 13, 3) := by decide +kernel
theorem dX11_service_73 : decode cX11_service 73 = .ok (.aload_n 0, 1) := by decide +kernel
theorem dX11_service_74 : decode cX11_service 74 = .ok (.getfield 9, 3) := by decide +kernel
theorem dX11_service_77 : decode cX11_service 77 = .ok (.iload_n 3, 1) := by decide +kernel
theorem dX11_service_78 : decode cX11_service 78 = .ok (.iload_n 2, 1) := by decide +kernel
theorem dX11_service_79 : decode cX11_service 79 = .ok (.iadd, 1) := by decide +kernel
theorem dX11_service_80 : decode cX11_service 80 = .ok (.iconst 2, 1) := by decide +kernel
theorem dX11_service_81 : decode cX11_service 81 = .ok (.isub, 1) := by decide +kernel
theorem dX11_service_82 : decode cX11_service 82 = .ok (.iaload, 1) := by decide +kernel
theorem dX11_service_83 : decode cX11_service 83 = .ok (.ireturn, 1) := by decide +kernel
theorem dX11_remembered_0 : decode cX11_remembered 0 = .ok (.iload_n 1, 1) := by decide +kernel
theorem dX11_remembered_1 : decode cX11_remembered 1 = .ok (.iconst 0, 1) := by decide +kernel
theorem dX11_remembered_2 : decode cX11_remembered 2 = .ok (.iconst 3, 1) := by decide +kernel
theorem dX11_remembered_3 : decode cX11_remembered 3 = .ok (.invokestatic 44, 3) := by decide +kernel
theorem dX11_remembered_6 : decode cX11_remembered 6 = .ok (.ifCond .eq 34, 3) := by decide +kernel
theorem dX11_remembered_9 : decode cX11_remembered 9 = .ok (.iload_n 2, 1) := by decide +kernel
theorem dX11_remembered_10 : decode cX11_remembered 10 = .ok (.iconst 0, 1) := by decide +kernel
theorem dX11_remembered_11 : decode cX11_remembered 11 = .ok (.bipush 9, 2) := by decide +kernel
theorem dX11_remembered_13 : decode cX11_remembered 13 = .ok (.invokestatic 44, 3) := by decide +kernel
theorem dX11_remembered_16 : decode cX11_remembered 16 = .ok (.ifCond .eq 24, 3) := by decide +kernel
theorem dX11_remembered_19 : decode cX11_remembered 19 = .ok (.aload_n 0, 1) := by decide +kernel
theorem dX11_remembered_20 : decode cX11_remembered 20 = .ok (.getfield 9, 3) := by decide +kernel
theorem dX11_remembered_23 : decode cX11_remembered 23 = .ok (.sipush 145, 3) := by decide +kernel
theorem dX11_remembered_26 : decode cX11_remembered 26 = .ok (.bipush 21, 2) := by decide +kernel
theorem dX11_remembered_28 : decode cX11_remembered 28 = .ok (.iload_n 1, 1) := by decide +kernel
theorem dX11_remembered_29 : decode cX11_remembered 29 = .ok (.imul, 1) := by decide +kernel
theorem dX11_remembered_30 : decode cX11_remembered 30 = .ok (.iadd, 1) := by decide +kernel
theorem dX11_remembered_31 : decode cX11_remembered 31 = .ok (.bipush 11, 2) := by decide +kernel
theorem dX11_remembered_33 : decode cX11_remembered 33 = .ok (.iadd, 1) := by decide +kernel
theorem dX11_remembered_34 : decode cX11_remembered 34 = .ok (.iload_n 2, 1) := by decide +kernel
theorem dX11_remembered_35 : decode cX11_remembered 35 = .ok (.iadd, 1) := by decide +kernel
theorem dX11_remembered_36 : decode cX11_remembered 36 = .ok (.iaload, 1) := by decide +kernel
theorem dX11_remembered_37 : decode cX11_remembered 37 = .ok (.goto 5, 3) := by decide +kernel
theorem dX11_remembered_40 : decode cX11_remembered 40 = .ok (.bipush (-2), 2) := by decide +kernel
theorem dX11_remembered_42 : decode cX11_remembered 42 = .ok (.ireturn, 1) := by decide +kernel
theorem dX11_target__0 : decode cX11_target_ 0 = .ok (.aload_n 0, 1) := by decide +kernel
theorem dX11_target__1 : decode cX11_target_ 1 = .ok (.iload_n 1, 1) := by decide +kernel
theorem dX11_target__2 : decode cX11_target_ 2 = .ok (.invokevirtual 103, 3) := by decide +kernel
theorem dX11_target__5 : decode cX11_target_ 5 = .ok (.ifCond .eq 29, 3) := by decide +kernel
theorem dX11_target__8 : decode cX11_target_ 8 = .ok (.iload_n 2, 1) := by decide +kernel
theorem dX11_target__9 : decode cX11_target_ 9 = .ok (.iconst 0, 1) := by decide +kernel
theorem dX11_target__10 : decode cX11_target_ 10 = .ok (.aload_n 0, 1) := by decide +kernel
theorem dX11_target__11 : decode cX11_target_ 11 = .ok (.getfield 9, 3) := by decide +kernel
theorem dX11_target__14 : decode cX11_target_ 14 = .ok (.sipush 231, 3) := by decide +kernel
theorem dX11_target__17 : decode cX11_target_ 17 = .ok (.bipush 58, 2) := by decide +kernel
theorem dX11_target__19 : decode cX11_target_ 19 = .ok (.iload_n 1, 1) := by decide +kernel
theorem dX11_target__20 : decode cX11_target_ 20 = .ok (.imul, 1) := by decide +kernel
theorem dX11_target__21 : decode cX11_target_ 21 = .ok (.iadd, 1) := by decide +kernel
theorem dX11_target__22 : decode cX11_target_ 22 = .ok (.bipush 43, 2) := by decide +kernel
theorem dX11_target__24 : decode cX11_target_ 24 = .ok (.iadd, 1) := by decide +kernel
theorem dX11_target__25 : decode cX11_target_ 25 = .ok (.iaload, 1) := by decide +kernel
theorem dX11_target__26 : decode cX11_target_ 26 = .ok (.iconst 1, 1) := by decide +kernel
theorem dX11_target__27 : decode cX11_target_ 27 = .ok (.isub, 1) := by decide +kernel
theorem dX11_target__28 : decode cX11_target_ 28 = .ok (.invokestatic 44, 3) := by decide +kernel
theorem dX11_target__31 : decode cX11_target_ 31 = .ok (.ifCond .ne 5, 3) := by decide +kernel
theorem dX11_target__34 : decode cX11_target_ 34 = .ok (.iconst (-1), 1) := by decide +kernel
theorem dX11_target__35 : decode cX11_target_ 35 = .ok (.ireturn, 1) := by decide +kernel
theorem dX11_target__36 : decode cX11_target_ 36 = .ok (.iload_n 3, 1) := by decide +kernel
theorem dX11_target__37 : decode cX11_target_ 37 = .ok (.iconst 0, 1) := by decide +kernel
theorem dX11_target__38 : decode cX11_target_ 38 = .ok (.iconst 3, 1) := by decide +kernel
theorem dX11_target__39 : decode cX11_target_ 39 = .ok (.invokestatic 44, 3) := by decide +kernel
theorem dX11_target__42 : decode cX11_target_ 42 = .ok (.ifCond .eq 28, 3) := by decide +kernel
theorem dX11_target__45 : decode cX11_target_ 45 = .ok (.aload_n 0, 1) := by decide +kernel
theorem dX11_target__46 : decode cX11_target_ 46 = .ok (.getfield 9, 3) := by decide +kernel
theorem dX11_target__49 : decode cX11_target_ 49 = .ok (.sipush 231, 3) := by decide +kernel
theorem dX11_target__52 : decode cX11_target_ 52 = .ok (.bipush 58, 2) := by decide +kernel
theorem dX11_target__54 : decode cX11_target_ 54 = .ok (.iload_n 1, 1) := by decide +kernel
theorem dX11_target__55 : decode cX11_target_ 55 = .ok (.imul, 1) := by decide +kernel
theorem dX11_target__56 : decode cX11_target_ 56 = .ok (.iadd, 1) := by decide +kernel
theorem dX11_target__57 : decode cX11_target_ 57 = .ok (.bipush 44, 2) := by decide +kernel
theorem dX11_target__59 : decode cX11_target_ 59 = .ok (.iadd, 1) := by decide +kernel
theorem dX11_target__60 : decode cX11_target_ 60 = .ok (.iconst 4, 1) := by decide +kernel
theorem dX11_target__61 : decode cX11_target_ 61 = .ok (.iload_n 2, 1) := by decide +kernel
theorem dX11_target__62 : decode cX11_target_ 62 = .ok (.imul, 1) := by decide +kernel
theorem dX11_target__63 : decode cX11_target_ 63 = .ok (.iadd, 1) := by decide +kernel
theorem dX11_target__64 : decode cX11_target_ 64 = .ok (.iload_n 3, 1) := by decide +kernel
theorem dX11_target__65 : decode cX11_target_ 65 = .ok (.iadd, 1) := by decide +kernel
theorem dX11_target__66 : decode cX11_target_ 66 = .ok (.iaload, 1) := by decide +kernel
theorem dX11_target__67 : decode cX11_target_ 67 = .ok (.goto 5, 3) := by decide +kernel
theorem dX11_target__70 : decode cX11_target_ 70 = .ok (.bipush (-2), 2) := by decide +kernel
theorem dX11_target__72 : decode cX11_target_ 72 = .ok (.ireturn, 1) := by decide +kernel
theorem dX11_trace_0 : decode cX11_trace 0 = .ok (.iload_n 1, 1) := by decide +kernel
theorem dX11_trace_1 : decode cX11_trace 1 = .ok (.iconst 0, 1) := by decide +kernel
theorem dX11_trace_2 : decode cX11_trace 2 = .ok (.aload_n 0, 1) := by decide +kernel
theorem dX11_trace_3 : decode cX11_trace 3 = .ok (.getfield 9, 3) := by decide +kernel
theorem dX11_trace_6 : decode cX11_trace 6 = .ok (.sipush 706, 3) := by decide +kernel
theorem dX11_trace_9 : decode cX11_trace 9 = .ok (.iaload, 1) := by decide +kernel
theorem dX11_trace_10 : decode cX11_trace 10 = .ok (.iconst 1, 1) := by decide +kernel
theorem dX11_trace_11 : decode cX11_trace 11 = .ok (.isub, 1) := by decide +kernel
theorem dX11_trace_12 : decode cX11_trace 12 = .ok (.invokestatic 44, 3) := by decide +kernel
theorem dX11_trace_15 : decode cX11_trace 15 = .ok (.ifCond .ne 7, 3) := by decide +kernel
theorem dX11_trace_18 : decode cX11_trace 18 = .ok (.iconst (-1), 1) := by decide +kernel
theorem dX11_trace_19 : decode cX11_trace 19 = .ok (.goto 31, 3) := by decide +kernel
theorem dX11_trace_22 : decode cX11_trace 22 = .ok (.iload_n 2, 1) := by decide +kernel
theorem dX11_trace_23 : decode cX11_trace 23 = .ok (.iconst 0, 1) := by decide +kernel
theorem dX11_trace_24 : decode cX11_trace 24 = .ok (.iconst 3, 1) := by decide +kernel
theorem dX11_trace_25 : decode cX11_trace 25 = .ok (.invokestatic 44, 3) := by decide +kernel
theorem dX11_trace_28 : decode cX11_trace 28 = .ok (.ifCond .eq 20, 3) := by decide +kernel
theorem dX11_trace_31 : decode cX11_trace 31 = .ok (.aload_n 0, 1) := by decide +kernel
theorem dX11_trace_32 : decode cX11_trace 32 = .ok (.getfield 9, 3) := by decide +kernel
theorem dX11_trace_35 : decode cX11_trace 35 = .ok (.sipush 707, 3) := by decide +kernel
theorem dX11_trace_38 : decode cX11_trace 38 = .ok (.iconst 4, 1) := by decide +kernel
theorem dX11_trace_39 : decode cX11_trace 39 = .ok (.iload_n 1, 1) := by decide +kernel
theorem dX11_trace_40 : decode cX11_trace 40 = .ok (.imul, 1) := by decide +kernel
theorem dX11_trace_41 : decode cX11_trace 41 = .ok (.iadd, 1) := by decide +kernel
theorem dX11_trace_42 : decode cX11_trace 42 = .ok (.iload_n 2, 1) := by decide +kernel
theorem dX11_trace_43 : decode cX11_trace 43 = .ok (.iadd, 1) := by decide +kernel
theorem dX11_trace_44 : decode cX11_trace 44 = .ok (.iaload, 1) := by decide +kernel
theorem dX11_trace_45 : decode cX11_trace 45 = .ok (.goto 5, 3) := by decide +kernel
theorem dX11_trace_48 : decode cX11_trace 48 = .ok (.bipush (-2), 2) := by decide +kernel
theorem dX11_trace_50 : decode cX11_trace 50 = .ok (.ireturn, 1) := by decide +kernel
theorem dX11_count_0 : decode cX11_count 0 = .ok (.iload_n 1, 1) := by decide +kernel
theorem dX11_count_1 : decode cX11_count 1 = .ok (.iconst 0, 1) := by decide +kernel
theorem dX11_count_2 : decode cX11_count 2 = .ok (.bipush 13, 2) := by decide +kernel
theorem dX11_count_4 : decode cX11_count 4 = .ok (.invokestatic 44, 3) := by decide +kernel
theorem dX11_count_7 : decode cX11_count 7 = .ok (.ifCond .ne 6, 3) := by decide +kernel
theorem dX11_count_10 : decode cX11_count 10 = .ok (.bipush (-2), 2) := by decide +kernel
theorem dX11_count_12 : decode cX11_count 12 = .ok (.ireturn, 1) := by decide +kernel
theorem dX11_count_13 : decode cX11_count 13 = .ok (.iload_n 1, 1) := by decide +kernel
theorem dX11_count_14 : decode cX11_count 14 = .ok (.tableswitch 107 0 13 #[70, 79, 107, 107, 107, 107, 107, 107, 107, 107, 107, 88, 93, 102], 70) := by decide +kernel
theorem dX11_count_84 : decode cX11_count 84 = .ok (.aload_n 0, 1) := by decide +kernel
theorem dX11_count_85 : decode cX11_count 85 = .ok (.getfield 9, 3) := by decide +kernel
theorem dX11_count_88 : decode cX11_count 88 = .ok (.sipush 144, 3) := by decide +kernel
theorem dX11_count_91 : decode cX11_count 91 = .ok (.iaload, 1) := by decide +kernel
theorem dX11_count_92 : decode cX11_count 92 = .ok (.ireturn, 1) := by decide +kernel
theorem dX11_count_93 : decode cX11_count 93 = .ok (.aload_n 0, 1) := by decide +kernel
theorem dX11_count_94 : decode cX11_count 94 = .ok (.getfield 9, 3) := by decide +kernel
theorem dX11_count_97 : decode cX11_count 97 = .ok (.sipush 230, 3) := by decide +kernel
theorem dX11_count_100 : decode cX11_count 100 = .ok (.iaload, 1) := by decide +kernel
theorem dX11_count_101 : decode cX11_count 101 = .ok (.ireturn, 1) := by decide +kernel
theorem dX11_count_102 : decode cX11_count 102 = .ok (.aload_n 0, 1) := by decide +kernel
theorem dX11_count_103 : decode cX11_count 103 = .ok (.getfield 52, 3) := by decide +kernel
theorem dX11_count_106 : decode cX11_count 106 = .ok (.ireturn, 1) := by decide +kernel
theorem dX11_count_107 : decode cX11_count 107 = .ok (.aload_n 0, 1) := by decide +kernel
theorem dX11_count_108 : decode cX11_count 108 = .ok (.getfield 9, 3) := by decide +kernel
theorem dX11_count_111 : decode cX11_count 111 = .ok (.sipush 706, 3) := by decide +kernel
theorem dX11_count_114 : decode cX11_count 114 = .ok (.iaload, 1) := by decide +kernel
theorem dX11_count_115 : decode cX11_count 115 = .ok (.ireturn, 1) := by decide +kernel
theorem dX11_count_116 : decode cX11_count 116 = .ok (.aload_n 0, 1) := by decide +kernel
theorem dX11_count_117 : decode cX11_count 117 = .ok (.getfield 74, 3) := by decide +kernel
theorem dX11_count_120 : decode cX11_count 120 = .ok (.ireturn, 1) := by decide +kernel
theorem dX11_count_121 : decode cX11_count 121 = .ok (.aload_n 0, 1) := by decide +kernel
theorem dX11_count_122 : decode cX11_count 122 = .ok (.getfield 9, 3) := by decide +kernel
theorem dX11_count_125 : decode cX11_count 125 = .ok (.sipush 695, 3) := by decide +kernel
theorem dX11_count_128 : decode cX11_count 128 = .ok (.iload_n 1, 1) := by decide +kernel
theorem dX11_count_129 : decode cX11_count 129 = .ok (.iadd, 1) := by decide +kernel
theorem dX11_count_130 : decode cX11_count 130 = .ok (.iaload, 1) := by decide +kernel
theorem dX11_count_131 : decode cX11_count 131 = .ok (.ireturn, 1) := by decide +kernel
theorem dX11_prints_0 : decode cX11_prints 0 = .ok (.aload_n 0, 1) := by decide +kernel
theorem dX11_prints_1 : decode cX11_prints 1 = .ok (.getfield 31, 3) := by decide +kernel
theorem dX11_prints_4 : decode cX11_prints 4 = .ok (.aload_n 0, 1) := by decide +kernel
theorem dX11_prints_5 : decode cX11_prints 5 = .ok (.getfield 179, 3) := by decide +kernel
theorem dX11_prints_8 : decode cX11_prints 8 = .ok (.iload_n 1, 1) := by decide +kernel
theorem dX11_prints_9 : decode cX11_prints 9 = .ok (.iastore, 1) := by decide +kernel
theorem dX11_prints_10 : decode cX11_prints 10 = .ok (.aload_n 0, 1) := by decide +kernel
theorem dX11_prints_11 : decode cX11_prints 11 = .ok (.dup, 1) := by decide +kernel
theorem dX11_prints_12 : decode cX11_prints 12 = .ok (.getfield 179, 3) := by decide +kernel
theorem dX11_prints_15 : decode cX11_prints 15 = .ok (.iconst 1, 1) := by decide +kernel
theorem dX11_prints_16 : decode cX11_prints 16 = .ok (.iadd, 1) := by decide +kernel
theorem dX11_prints_17 : decode cX11_prints 17 = .ok (.putfield 179, 3) := by decide +kernel
theorem dX11_prints_20 : decode cX11_prints 20 = .ok (.return_, 1) := by decide +kernel
theorem dX11_printsTwo_0 : decode cX11_printsTwo 0 = .ok (.aload_n 0, 1) := by decide +kernel
theorem dX11_printsTwo_1 : decode cX11_printsTwo 1 = .ok (.iload_n 1, 1) := by decide +kernel
theorem dX11_printsTwo_2 : decode cX11_printsTwo 2 = .ok (.invokevirtual 182, 3) := by decide +kernel
theorem dX11_printsTwo_5 : decode cX11_printsTwo 5 = .ok (.aload_n 0, 1) := by decide +kernel
theorem dX11_printsTwo_6 : decode cX11_printsTwo 6 = .ok (.bipush 48, 2) := by decide +kernel
theorem dX11_printsTwo_8 : decode cX11_printsTwo 8 = .ok (.iload_n 2, 1) := by decide +kernel
theorem dX11_printsTwo_9 : decode cX11_printsTwo 9 = .ok (.iadd, 1) := by decide +kernel
theorem dX11_printsTwo_10 : decode cX11_printsTwo 10 = .ok (.invokevirtual 182, 3) := by decide +kernel
theorem dX11_printsTwo_13 : decode cX11_printsTwo 13 = .ok (.return_, 1) := by decide +kernel
theorem dX11_print_0 : decode cX11_print 0 = .ok (.aload_n 0, 1) := by decide +kernel
theorem dX11_print_1 : decode cX11_print 1 = .ok (.iload_n 1, 1) := by decide +kernel
theorem dX11_print_2 : decode cX11_print 2 = .ok (.invokevirtual 103, 3) := by decide +kernel
theorem dX11_print_5 : decode cX11_print 5 = .ok (.ifCond .ne 5, 3) := by decide +kernel
theorem dX11_print_8 : decode cX11_print 8 = .ok (.iconst (-1), 1) := by decide +kernel
theorem dX11_print_9 : decode cX11_print 9 = .ok (.ireturn, 1) := by decide +kernel
theorem dX11_print_10 : decode cX11_print 10 = .ok (.aload_n 0, 1) := by decide +kernel
theorem dX11_print_11 : decode cX11_print 11 = .ok (.iconst 0, 1) := by decide +kernel
theorem dX11_print_12 : decode cX11_print 12 = .ok (.putfield 179, 3) := by decide +kernel
theorem dX11_print_15 : decode cX11_print 15 = .ok (.sipush 231, 3) := by decide +kernel
theorem dX11_print_18 : decode cX11_print 18 = .ok (.bipush 58, 2) := by decide +kernel
theorem dX11_print_20 : decode cX11_print 20 = .ok (.iload_n 1, 1) := by decide +kernel
theorem dX11_print_21 : decode cX11_print 21 = .ok (.imul, 1) := by decide +kernel
theorem dX11_print_22 : decode cX11_print 22 = .ok (.iadd, 1) := by decide +kernel
theorem dX11_print_23 : decode cX11_print 23 = .ok (.istore_n 2, 1) := by decide +kernel
theorem dX11_print_24 : decode cX11_print 24 = .ok (.iconst 0, 1) := by decide +kernel
theorem dX11_print_25 : decode cX11_print 25 = .ok (.istore_n 3, 1) := by decide +kernel
theorem dX11_print_26 : decode cX11_print 26 = .ok (.iload_n 3, 1) := by decide +kernel
theorem dX11_print_27 : decode cX11_print 27 = .ok (.aload_n 0, 1) := by decide +kernel
theorem dX11_print_28 : decode cX11_print 28 = .ok (.getfield 9, 3) := by decide +kernel
theorem dX11_print_31 : decode cX11_print 31 = .ok (.iload_n 2, 1) := by decide +kernel
theorem dX11_print_32 : decode cX11_print 32 = .ok (.iaload, 1) := by decide +kernel
theorem dX11_print_33 : decode cX11_print 33 = .ok (.if_icmp .ge 23, 3) := by decide +kernel
theorem dX11_print_36 : decode cX11_print 36 = .ok (.aload_n 0, 1) := by decide +kernel
theorem dX11_print_37 : decode cX11_print 37 = .ok (.aload_n 0, 1) := by decide +kernel
theorem dX11_print_38 : decode cX11_print 38 = .ok (.getfield 9, 3) := by decide +kernel
theorem dX11_print_41 : decode cX11_print 41 = .ok (.iload_n 2, 1) := by decide +kernel
theorem dX11_print_42 : decode cX11_print 42 = .ok (.iconst 1, 1) := by decide +kernel
theorem dX11_print_43 : decode cX11_print 43 = .ok (.iadd, 1) := by decide +kernel
theorem dX11_print_44 : decode cX11_print 44 = .ok (.iload_n 3, 1) := by decide +kernel
theorem dX11_print_45 : decode cX11_print 45 = .ok (.iadd, 1) := by decide +kernel
theorem dX11_print_46 : decode cX11_print 46 = .ok (.iaload, 1) := by decide +kernel
theorem dX11_print_47 : decode cX11_print 47 = .ok (.invokevirtual 182, 3) := by decide +kernel
theorem dX11_print_50 : decode cX11_print 50 = .ok (.iinc 3 1, 3) := by decide +kernel
theorem dX11_print_53 : decode cX11_print 53 = .ok (.goto (-27), 3) := by decide +kernel
theorem dX11_print_56 : decode cX11_print 56 = .ok (.aload_n 0, 1) := by decide +kernel
theorem dX11_print_57 : decode cX11_print 57 = .ok (.getfield 9, 3) := by decide +kernel
theorem dX11_print_60 : decode cX11_print 60 = .ok (.iload_n 2, 1) := by decide +kernel
theorem dX11_print_61 : decode cX11_print 61 = .ok (.bipush 41, 2) := by decide +kernel
theorem dX11_print_63 : decode cX11_print 63 = .ok (.iadd, 1) := by decide +kernel
theorem dX11_print_64 : decode cX11_print 64 = .ok (.iaload, 1) := by decide +kernel
theorem dX11_print_65 : decode cX11_print 65 = .ok (.ifCond .gt 17, 3) := by decide +kernel
theorem dX11_print_68 : decode cX11_print 68 = .ok (.aload_n 0, 1) := by decide +kernel
theorem dX11_print_69 : decode cX11_print 69 = .ok (.getfield 9, 3) := by decide +kernel
theorem dX11_print_72 : decode cX11_print 72 = .ok (.iload_n 2, 1) := by decide +kernel
theorem dX11_print_73 : decode cX11_print 73 = .ok (.bipush 42, 2) := by decide +kernel
theorem dX11_print_75 : decode cX11_print 75 = .ok (.iadd, 1) := by decide +kernel
theorem dX11_print_76 : decode cX11_print 76 = .ok (.iaload, 1) := by decide +kernel
theorem dX11_print_77 : decode cX11_print 77 = .ok (.bipush 9, 2) := by decide +kernel
theorem dX11_print_79 : decode cX11_print 79 = .ok (.if_icmp .ge 39, 3) := by decide +kernel
theorem dX11_print_82 : decode cX11_print 82 = .ok (.aload_n 0, 1) := by decide +kernel
theorem dX11_print_83 : decode cX11_print 83 = .ok (.bipush 91, 2) := by decide +kernel
theorem dX11_print_85 : decode cX11_print 85 = .ok (.aload_n 0, 1) := by decide +kernel
theorem dX11_print_86 : decode cX11_print 86 = .ok (.getfield 9, 3) := by decide +kernel
theorem dX11_print_89 : decode cX11_print 89 = .ok (.iload_n 2, 1) := by decide +kernel
theorem dX11_print_90 : decode cX11_print 90 = .ok (.bipush 41, 2) := by decide +kernel
theorem dX11_print_92 : decode cX11_print 92 = .ok (.iadd, 1) := by decide +kernel
theorem dX11_print_93 : decode cX11_print 93 = .ok (.iaload, 1) := by decide +kernel
theorem dX11_print_94 : decode cX11_print 94 = .ok (.invokevirtual 185, 3) := by decide +kernel
theorem dX11_print_97 : decode cX11_print 97 = .ok (.aload_n 0, 1) := by decide +kernel
theorem dX11_print_98 : decode cX11_print 98 = .ok (.bipush 45, 2) := by decide +kernel
theorem dX11_print_100 : decode cX11_print 100 = .ok (.aload_n 0, 1) := by decide +kernel
theorem dX11_print_101 : decode cX11_print 101 = .ok (.getfield 9, 3) := by decide +kernel
theorem dX11_print_104 : decode cX11_print 104 = .ok (.iload_n 2, 1) := by decide +kernel
theorem dX11_print_105 : decode cX11_print 105 = .ok (.bipush 42, 2) := by decide +kernel
theorem dX11_print_107 : decode cX11_print 107 = .ok (.iadd, 1) := by decide +kernel
theorem dX11_print_108 : decode cX11_print 108 = .ok (.iaload, 1) := by decide +kernel
theorem dX11_print_109 : decode cX11_print 109 = .ok (.invokevirtual 185, 3) := by decide +kernel
theorem dX11_print_112 : decode cX11_print 112 = .ok (.aload_n 0, 1) := by decide +kernel
theorem dX11_print_113 : decode cX11_print 113 = .ok (.bipush 93, 2) := by decide +kernel
theorem dX11_print_115 : decode cX11_print 115 = .ok (.invokevirtual 182, 3) := by decide +kernel
theorem dX11_print_118 : decode cX11_print 118 = .ok (.iconst 0, 1) := by decide +kernel
theorem dX11_print_119 : decode cX11_print 119 = .ok (.istore_n 3, 1) := by decide +kernel
theorem dX11_print_120 : decode cX11_print 120 = .ok (.iload_n 3, 1) := by decide +kernel
theorem dX11_print_121 : decode cX11_print 121 = .ok (.aload_n 0, 1) := by decide +kernel
theorem dX11_print_122 : decode cX11_print 122 = .ok (.getfield 9, 3) := by decide +kernel
theorem dX11_print_125 : decode cX11_print 125 = .ok (.iload_n 2, 1) := by decide +kernel
theorem dX11_print_126 : decode cX11_print 126 = .ok (.bipush 43, 2) := by decide +kernel
theorem dX11_print_128 : decode cX11_print 128 = .ok (.iadd, 1) := by decide +kernel
theorem dX11_print_129 : decode cX11_print 129 = .ok (.iaload, 1) := by decide +kernel
theorem dX11_print_130 : decode cX11_print 130 = .ok (.if_icmp .ge 77, 3) := by decide +kernel
theorem dX11_print_133 : decode cX11_print 133 = .ok (.aload_n 0, 1) := by decide +kernel
theorem dX11_print_134 : decode cX11_print 134 = .ok (.iload_n 3, 1) := by decide +kernel
theorem dX11_print_135 : decode cX11_print 135 = .ok (.ifCond .ne 8, 3) := by decide +kernel
theorem dX11_print_138 : decode cX11_print 138 = .ok (.bipush 61, 2) := by decide +kernel
theorem dX11_print_140 : decode cX11_print 140 = .ok (.goto 5, 3) := by decide +kernel
theorem dX11_print_143 : decode cX11_print 143 = .ok (.bipush 44, 2) := by decide +kernel
theorem dX11_print_145 : decode cX11_print 145 = .ok (.aload_n 0, 1) := by decide +kernel
theorem dX11_print_146 : decode cX11_print 146 = .ok (.getfield 9, 3) := by decide +kernel
theorem dX11_print_149 : decode cX11_print 149 = .ok (.iload_n 2, 1) := by decide +kernel
theorem dX11_print_150 : decode cX11_print 150 = .ok (.bipush 44, 2) := by decide +kernel
theorem dX11_print_152 : decode cX11_print 152 = .ok (.iadd, 1) := by decide +kernel
theorem dX11_print_153 : decode cX11_print 153 = .ok (.iconst 4, 1) := by decide +kernel
theorem dX11_print_154 : decode cX11_print 154 = .ok (.iload_n 3, 1) := by decide +kernel
theorem dX11_print_155 : decode cX11_print 155 = .ok (.imul, 1) := by decide +kernel
theorem dX11_print_156 : decode cX11_print 156 = .ok (.iadd, 1) := by decide +kernel
theorem dX11_print_157 : decode cX11_print 157 = .ok (.iaload, 1) := by decide +kernel
theorem dX11_print_158 : decode cX11_print 158 = .ok (.invokevirtual 185, 3) := by decide +kernel
theorem dX11_print_161 : decode cX11_print 161 = .ok (.aload_n 0, 1) := by decide +kernel
theorem dX11_print_162 : decode cX11_print 162 = .ok (.getfield 9, 3) := by decide +kernel
theorem dX11_print_165 : decode cX11_print 165 = .ok (.iload_n 2, 1) := by decide +kernel
theorem dX11_print_166 : decode cX11_print 166 = .ok (.bipush 44, 2) := by decide +kernel
theorem dX11_print_168 : decode cX11_print 168 = .ok (.iadd, 1) := by decide +kernel
theorem dX11_print_169 : decode cX11_print 169 = .ok (.iconst 4, 1) := by decide +kernel
theorem dX11_print_170 : decode cX11_print 170 = .ok (.iload_n 3, 1) := by decide +kernel
theorem dX11_print_171 : decode cX11_print 171 = .ok (.imul, 1) := by decide +kernel
theorem dX11_print_172 : decode cX11_print 172 = .ok (.iadd, 1) := by decide +kernel
theorem dX11_print_173 : decode cX11_print 173 = .ok (.iconst 1, 1) := by decide +kernel
theorem dX11_print_174 : decode cX11_print 174 = .ok (.iadd, 1) := by decide +kernel
theorem dX11_print_175 : decode cX11_print 175 = .ok (.iaload, 1) := by decide +kernel
theorem dX11_print_176 : decode cX11_print 176 = .ok (.iconst 1, 1) := by decide +kernel
theorem dX11_print_177 : decode cX11_print 177 = .ok (.if_icmp .le 24, 3) := by decide +kernel
theorem dX11_print_180 : decode cX11_print 180 = .ok (.aload_n 0, 1) := by decide +kernel
theorem dX11_print_181 : decode cX11_print 181 = .ok (.bipush 58, 2) := by decide +kernel
theorem dX11_print_183 : decode cX11_print 183 = .ok (.aload_n 0, 1) := by decide +kernel
theorem dX11_print_184 : decode cX11_print 184 = .ok (.getfield 9, 3) := by decide +kernel
theorem dX11_print_187 : decode cX11_print 187 = .ok (.iload_n 2, 1) := by decide +kernel
theorem dX11_print_188 : decode cX11_print 188 = .ok (.bipush 44, 2) := by decide +kernel
theorem dX11_print_190 : decode cX11_print 190 = .ok (.iadd, 1) := by decide +kernel
theorem dX11_print_191 : decode cX11_print 191 = .ok (.iconst 4, 1) := by decide +kernel
theorem dX11_print_192 : decode cX11_print 192 = .ok (.iload_n 3, 1) := by decide +kernel
theorem dX11_print_193 : decode cX11_print 193 = .ok (.imul, 1) := by decide +kernel
theorem dX11_print_194 : decode cX11_print 194 = .ok (.iadd, 1) := by decide +kernel
theorem dX11_print_195 : decode cX11_print 195 = .ok (.iconst 1, 1) := by decide +kernel
theorem dX11_print_196 : decode cX11_print 196 = .ok (.iadd, 1) := by decide +kernel
theorem dX11_print_197 : decode cX11_print 197 = .ok (.iaload, 1) := by decide +kernel
theorem dX11_print_198 : decode cX11_print 198 = .ok (.invokevirtual 185, 3) := by decide +kernel
theorem dX11_print_201 : decode cX11_print 201 = .ok (.iinc 3 1, 3) := by decide +kernel
theorem dX11_print_204 : decode cX11_print 204 = .ok (.goto (-84), 3) := by decide +kernel
theorem dX11_print_207 : decode cX11_print 207 = .ok (.aload_n 0, 1) := by decide +kernel
theorem dX11_print_208 : decode cX11_print 208 = .ok (.getfield 9, 3) := by decide +kernel
theorem dX11_print_211 : decode cX11_print 211 = .ok (.iload_n 2, 1) := by decide +kernel
theorem dX11_print_212 : decode cX11_print 212 = .ok (.bipush 57, 2) := by decide +kernel
theorem dX11_print_214 : decode cX11_print 214 = .ok (.iadd, 1) := by decide +kernel
theorem dX11_print_215 : decode cX11_print 215 = .ok (.iaload, 1) := by decide +kernel
theorem dX11_print_216 : decode cX11_print 216 = .ok (.ifCond .lt 18, 3) := by decide +kernel
theorem dX11_print_219 : decode cX11_print 219 = .ok (.aload_n 0, 1) := by decide +kernel
theorem dX11_print_220 : decode cX11_print 220 = .ok (.bipush 126, 2) := by decide +kernel
theorem dX11_print_222 : decode cX11_print 222 = .ok (.aload_n 0, 1) := by decide +kernel
theorem dX11_print_223 : decode cX11_print 223 = .ok (.getfield 9, 3) := by decide +kernel
theorem dX11_print_226 : decode cX11_print 226 = .ok (.iload_n 2, 1) := by decide +kernel
theorem dX11_print_227 : decode cX11_print 227 = .ok (.bipush 57, 2) := by decide +kernel
theorem dX11_print_229 : decode cX11_print 229 = .ok (.iadd, 1) := by decide +kernel
theorem dX11_print_230 : decode cX11_print 230 = .ok (.iaload, 1) := by decide +kernel
theorem dX11_print_231 : decode cX11_print 231 = .ok (.invokevirtual 185, 3) := by decide +kernel
theorem dX11_print_234 : decode cX11_print 234 = .ok (.aload_n 0, 1) := by decide +kernel
theorem dX11_print_235 : decode cX11_print 235 = .ok (.getfield 9, 3) := by decide +kernel
theorem dX11_print_238 : decode cX11_print 238 = .ok (.iload_n 2, 1) := by decide +kernel
theorem dX11_print_239 : decode cX11_print 239 = .ok (.bipush 56, 2) := by decide +kernel
theorem dX11_print_241 : decode cX11_print 241 = .ok (.iadd, 1) := by decide +kernel
theorem dX11_print_242 : decode cX11_print 242 = .ok (.iaload, 1) := by decide +kernel
theorem dX11_print_243 : decode cX11_print 243 = .ok (.iconst 1, 1) := by decide +kernel
theorem dX11_print_244 : decode cX11_print 244 = .ok (.if_icmp .le 18, 3) := by decide +kernel
theorem dX11_print_247 : decode cX11_print 247 = .ok (.aload_n 0, 1) := by decide +kernel
theorem dX11_print_248 : decode cX11_print 248 = .ok (.bipush 42, 2) := by decide +kernel
theorem dX11_print_250 : decode cX11_print 250 = .ok (.aload_n 0, 1) := by decide +kernel
theorem dX11_print_251 : decode cX11_print 251 = .ok (.getfield 9, 3) := by decide +kernel
theorem dX11_print_254 : decode cX11_print 254 = .ok (.iload_n 2, 1) := by decide +kernel
theorem dX11_print_255 : decode cX11_print 255 = .ok (.bipush 56, 2) := by decide +kernel
theorem dX11_print_257 : decode cX11_print 257 = .ok (.iadd, 1) := by decide +kernel
theorem dX11_print_258 : decode cX11_print 258 = .ok (.iaload, 1) := by decide +kernel
theorem dX11_print_259 : decode cX11_print 259 = .ok (.invokevirtual 185, 3) := by decide +kernel
theorem dX11_print_262 : decode cX11_print 262 = .ok (.aload_n 0, 1) := by decide +kernel
theorem dX11_print_263 : decode cX11_print 263 = .ok (.getfield 179, 3) := by decide +kernel
theorem dX11_print_266 : decode cX11_print 266 = .ok (.ireturn, 1) := by decide +kernel
theorem dX11_printed_0 : decode cX11_printed 0 = .ok (.iload_n 1, 1) := by decide +kernel
theorem dX11_printed_1 : decode cX11_printed 1 = .ok (.iconst 0, 1) := by decide +kernel
theorem dX11_printed_2 : decode cX11_printed 2 = .ok (.aload_n 0, 1) := by decide +kernel
theorem dX11_printed_3 : decode cX11_printed 3 = .ok (.getfield 179, 3) := by decide +kernel
theorem dX11_printed_6 : decode cX11_printed 6 = .ok (.iconst 1, 1) := by decide +kernel
theorem dX11_printed_7 : decode cX11_printed 7 = .ok (.isub, 1) := by decide +kernel
theorem dX11_printed_8 : decode cX11_printed 8 = .ok (.invokestatic 44, 3) := by decide +kernel
theorem dX11_printed_11 : decode cX11_printed 11 = .ok (.ifCond .eq 12, 3) := by decide +kernel
theorem dX11_printed_14 : decode cX11_printed 14 = .ok (.aload_n 0, 1) := by decide +kernel
theorem dX11_printed_15 : decode cX11_printed 15 = .ok (.getfield 31, 3) := by decide +kernel
theorem dX11_printed_18 : decode cX11_printed 18 = .ok (.iload_n 1, 1) := by decide +kernel
theorem dX11_printed_19 : decode cX11_printed 19 = .ok (.iaload, 1) := by decide +kernel
theorem dX11_printed_20 : decode cX11_printed 20 = .ok (.goto 4, 3) := by decide +kernel
theorem dX11_printed_23 : decode cX11_printed 23 = .ok (.iconst (-1), 1) := by decide +kernel
theorem dX11_printed_24 : decode cX11_printed 24 = .ok (.ireturn, 1) := by decide +kernel
theorem dX11_mark_0 : decode cX11_mark 0 = .ok (.aload_n 0, 1) := by decide +kernel
theorem dX11_mark_1 : decode cX11_mark 1 = .ok (.getfield 9, 3) := by decide +kernel
theorem dX11_mark_4 : decode cX11_mark 4 = .ok (.aload_n 0, 1) := by decide +kernel
theorem dX11_mark_5 : decode cX11_mark 5 = .ok (.getfield 16, 3) := by decide +kernel
theorem dX11_mark_8 : decode cX11_mark 8 = .ok (.invokestatic 168, 3) := by decide +kernel
theorem dX11_mark_11 : decode cX11_mark 11 = .ok (.aload_n 0, 1) := by decide +kernel
theorem dX11_mark_12 : decode cX11_mark 12 = .ok (.iconst 1, 1) := by decide +kernel
theorem dX11_mark_13 : decode cX11_mark 13 = .ok (.putfield 48, 3) := by decide +kernel
theorem dX11_mark_16 : decode cX11_mark 16 = .ok (.aload_n 0, 1) := by decide +kernel
theorem dX11_mark_17 : decode cX11_mark 17 = .ok (.iconst 0, 1) := by decide +kernel
theorem dX11_mark_18 : decode cX11_mark 18 = .ok (.putfield 52, 3) := by decide +kernel
theorem dX11_mark_21 : decode cX11_mark 21 = .ok (.aload_n 0, 1) := by decide +kernel
theorem dX11_mark_22 : decode cX11_mark 22 = .ok (.getfield 9, 3) := by decide +kernel
theorem dX11_mark_25 : decode cX11_mark 25 = .ok (.sipush 144, 3) := by decide +kernel
theorem dX11_mark_28 : decode cX11_mark 28 = .ok (.iaload, 1) := by decide +kernel
theorem dX11_mark_29 : decode cX11_mark 29 = .ok (.ireturn, 1) := by decide +kernel
theorem dX11_plays_0 : decode cX11_plays 0 = .ok (.iload_n 1, 1) := by decide +kernel
theorem dX11_plays_1 : decode cX11_plays 1 = .ok (.iconst 0, 1) := by decide +kernel
theorem dX11_plays_2 : decode cX11_plays 2 = .ok (.iconst 4, 1) := by decide +kernel
theorem dX11_plays_3 : decode cX11_plays 3 = .ok (.invokestatic 44, 3) := by decide +kernel
theorem dX11_plays_6 : decode cX11_plays 6 = .ok (.ifCond .ne 6, 3) := by decide +kernel
theorem dX11_plays_9 : decode cX11_plays 9 = .ok (.bipush (-2), 2) := by decide +kernel
theorem dX11_plays_11 : decode cX11_plays 11 = .ok (.ireturn, 1) := by decide +kernel
theorem dX11_plays_12 : decode cX11_plays 12 = .ok (.aload_n 0, 1) := by decide +kernel
theorem dX11_plays_13 : decode cX11_plays 13 = .ok (.getfield 48, 3) := by decide +kernel
theorem dX11_plays_16 : decode cX11_plays 16 = .ok (.ifCond .ne 5, 3) := by decide +kernel
theorem dX11_plays_19 : decode cX11_plays 19 = .ok (.iconst (-1), 1) := by decide +kernel
theorem dX11_plays_20 : decode cX11_plays 20 = .ok (.ireturn, 1) := by decide +kernel
theorem dX11_plays_21 : decode cX11_plays 21 = .ok (.aload_n 0, 1) := by decide +kernel
theorem dX11_plays_22 : decode cX11_plays 22 = .ok (.getfield 9, 3) := by decide +kernel
theorem dX11_plays_25 : decode cX11_plays 25 = .ok (.aload_n 0, 1) := by decide +kernel
theorem dX11_plays_26 : decode cX11_plays 26 = .ok (.getfield 19, 3) := by decide +kernel
theorem dX11_plays_29 : decode cX11_plays 29 = .ok (.invokestatic 168, 3) := by decide +kernel
theorem dX11_plays_32 : decode cX11_plays 32 = .ok (.aload_n 0, 1) := by decide +kernel
theorem dX11_plays_33 : decode cX11_plays 33 = .ok (.getfield 74, 3) := by decide +kernel
theorem dX11_plays_36 : decode cX11_plays 36 = .ok (.istore_n 3, 1) := by decide +kernel
theorem dX11_plays_37 : decode cX11_plays 37 = .ok (.iconst 0, 1) := by decide +kernel
theorem dX11_plays_38 : decode cX11_plays 38 = .ok (.istore 4, 2) := by decide +kernel
theorem dX11_plays_40 : decode cX11_plays 40 = .ok (.iload 4, 2) := by decide +kernel
theorem dX11_plays_42 : decode cX11_plays 42 = .ok (.iload_n 3, 1) := by decide +kernel
theorem dX11_plays_43 : decode cX11_plays 43 = .ok (.if_icmp .ge 23, 3) := by decide +kernel
theorem dX11_plays_46 : decode cX11_plays 46 = .ok (.aload_n 0, 1) := by decide +kernel
theorem dX11_plays_47 : decode cX11_plays 47 = .ok (.getfield 41, 3) := by decide +kernel
theorem dX11_plays_50 : decode cX11_plays 50 = .ok (.iload 4, 2) := by decide +kernel
theorem dX11_plays_52 : decode cX11_plays 52 = .ok (.aload_n 0, 1) := by decide +kernel
theorem dX11_plays_53 : decode cX11_plays 53 = .ok (.getfield 22, 3) := by decide +kernel
theorem dX11_plays_56 : decode cX11_plays 56 = .ok (.iload 4, 2) := by decide +kernel
theorem dX11_plays_58 : decode cX11_plays 58 = .ok (.iaload, 1) := by decide +kernel
theorem dX11_plays_59 : decode cX11_plays 59 = .ok (.iastore, 1) := by decide +kernel
theorem dX11_plays_60 : decode cX11_plays 60 = .ok (.iinc 4 1, 3) := by decide +kernel
theorem dX11_plays_63 : decode cX11_plays 63 = .ok (.goto (-23), 3) := by decide +kernel
theorem dX11_plays_66 : decode cX11_plays 66 = .ok (.aload_n 0, 1) := by decide +kernel
theorem dX11_plays_67 : decode cX11_plays 67 = .ok (.getfield 16, 3) := by decide +kernel
theorem dX11_plays_70 : decode cX11_plays 70 = .ok (.aload_n 0, 1) := by decide +kernel
theorem dX11_plays_71 : decode cX11_plays 71 = .ok (.getfield 9, 3) := by decide +kernel
theorem dX11_plays_74 : decode cX11_plays 74 = .ok (.invokestatic 168, 3) := by decide +kernel
theorem dX11_plays_77 : decode cX11_plays 77 = .ok (.aload_n 0, 1) := by decide +kernel
theorem dX11_plays_78 : decode cX11_plays 78 = .ok (.iload_n 1, 1) := by decide +kernel
theorem dX11_plays_79 : decode cX11_plays 79 = .ok (.putfield 37, 3) := by decide +kernel
theorem dX11_plays_82 : decode cX11_plays 82 = .ok (.iconst 0, 1) := by decide +kernel
theorem dX11_plays_83 : decode cX11_plays 83 = .ok (.istore 4, 2) := by decide +kernel
theorem dX11_plays_85 : decode cX11_plays 85 = .ok (.iconst 0, 1) := by decide +kernel
theorem dX11_plays_86 : decode cX11_plays 86 = .ok (.istore 5, 2) := by decide +kernel
theorem dX11_plays_88 : decode cX11_plays 88 = .ok (.iload 5, 2) := by decide +kernel
theorem dX11_plays_90 : decode cX11_plays 90 = .ok (.aload_n 0, 1) := by decide +kernel
theorem dX11_plays_91 : decode cX11_plays 91 = .ok (.getfield 52, 3) := by decide +kernel
theorem dX11_plays_94 : decode cX11_plays 94 = .ok (.if_icmp .ge 140, 3) := by decide +kernel
theorem dX11_plays_97 : decode cX11_plays 97 = .ok (.aload_n 0, 1) := by decide +kernel
theorem dX11_plays_98 : decode cX11_plays 98 = .ok (.aload_n 0, 1) := by decide +kernel
theorem dX11_plays_99 : decode cX11_plays 99 = .ok (.getfield 25, 3) := by decide +kernel
theorem dX11_plays_102 : decode cX11_plays 102 = .ok (.iconst 4, 1) := by decide +kernel
theorem dX11_plays_103 : decode cX11_plays 103 = .ok (.iload 5, 2) := by decide +kernel
theorem dX11_plays_105 : decode cX11_plays 105 = .ok (.imul, 1) := by decide +kernel
theorem dX11_plays_106 : decode cX11_plays 106 = .ok (.iaload, 1) := by decide +kernel
theorem dX11_plays_107 : decode cX11_plays 107 = .ok (.putfield 74, 3) := by decide +kernel
theorem dX11_plays_110 : decode cX11_plays 110 = .ok (.aload_n 0, 1) := by decide +kernel
theorem dX11_plays_111 : decode cX11_plays 111 = .ok (.getfield 74, 3) := by decide +kernel
theorem dX11_plays_114 : decode cX11_plays 114 = .ok (.ifCond .ge 10, 3) := by decide +kernel
theorem dX11_plays_117 : decode cX11_plays 117 = .ok (.aload_n 0, 1) := by decide +kernel
theorem dX11_plays_118 : decode cX11_plays 118 = .ok (.invokevirtual 172, 3) := by decide +kernel
theorem dX11_plays_121 : decode cX11_plays 121 = .ok (.goto 107, 3) := by decide +kernel
theorem dX11_plays_124 : decode cX11_plays 124 = .ok (.iconst 0, 1) := by decide +kernel
theorem dX11_plays_125 : decode cX11_plays 125 = .ok (.istore 6, 2) := by decide +kernel
theorem dX11_plays_127 : decode cX11_plays 127 = .ok (.iload 6, 2) := by decide +kernel
theorem dX11_plays_129 : decode cX11_plays 129 = .ok (.aload_n 0, 1) := by decide +kernel
theorem dX11_plays_130 : decode cX11_plays 130 = .ok (.getfield 74, 3) := by decide +kernel
theorem dX11_plays_133 : decode cX11_plays 133 = .ok (.if_icmp .ge 29, 3) := by decide +kernel
theorem dX11_plays_136 : decode cX11_plays 136 = .ok (.aload_n 0, 1) := by decide +kernel
theorem dX11_plays_137 : decode cX11_plays 137 = .ok (.getfield 22, 3) := by decide +kernel
theorem dX11_plays_140 : decode cX11_plays 140 = .ok (.iload 6, 2) := by decide +kernel
theorem dX11_plays_142 : decode cX11_plays 142 = .ok (.aload_n 0, 1) := by decide +kernel
theorem dX11_plays_143 : decode cX11_plays 143 = .ok (.getfield 28, 3) := by decide +kernel
theorem dX11_plays_146 : decode cX11_plays 146 = .ok (.bipush 40, 2) := by decide +kernel
theorem dX11_plays_148 : decode cX11_plays 148 = .ok (.iload 5, 2) := by decide +kernel
theorem dX11_plays_150 : decode cX11_plays 150 = .ok (.imul, 1) := by decide +kernel
theorem dX11_plays_151 : decode cX11_plays 151 = .ok (.iload 6, 2) := by decide +kernel
theorem dX11_plays_153 : decode cX11_plays 153 = .ok (.iadd, 1) := by decide +kernel
theorem dX11_plays_154 : decode cX11_plays 154 = .ok (.iaload, 1) := by decide +kernel
theorem dX11_plays_155 : decode cX11_plays 155 = .ok (.iastore, 1) := by decide +kernel
theorem dX11_plays_156 : decode cX11_plays 156 = .ok (.iinc 6 1, 3) := by decide +kernel
theorem dX11_plays_159 : decode cX11_plays 159 = .ok (.goto (-32), 3) := by decide +kernel
theorem dX11_plays_162 : decode cX11_plays 162 = .ok (.aload_n 0, 1) := by decide +kernel
theorem dX11_plays_163 : decode cX11_plays 163 = .ok (.aload_n 0, 1) := by decide +kernel
theorem dX11_plays_164 : decode cX11_plays 164 = .ok (.getfield 25, 3) := by decide +kernel
theorem dX11_plays_167 : decode cX11_plays 167 = .ok (.iconst 4, 1) := by decide +kernel
theorem dX11_plays_168 : decode cX11_plays 168 = .ok (.iload 5, 2) := by decide +kernel
theorem dX11_plays_170 : decode cX11_plays 170 = .ok (.imul, 1) := by decide +kernel
theorem dX11_plays_171 : decode cX11_plays 171 = .ok (.iconst 1, 1) := by decide +kernel
theorem dX11_plays_172 : decode cX11_plays 172 = .ok (.iadd, 1) := by decide +kernel
theorem dX11_plays_173 : decode cX11_plays 173 = .ok (.iaload, 1) := by decide +kernel
theorem dX11_plays_174 : decode cX11_plays 174 = .ok (.aload_n 0, 1) := by decide +kernel
theorem dX11_plays_175 : decode cX11_plays 175 = .ok (.getfield 25, 3) := by decide +kernel
theorem dX11_plays_178 : decode cX11_plays 178 = .ok (.iconst 4, 1) := by decide +kernel
theorem dX11_plays_179 : decode cX11_plays 179 = .ok (.iload 5, 2) := by decide +kernel
theorem dX11_plays_181 : decode cX11_plays 181 = .ok (.imul, 1) := by decide +kernel
theorem dX11_plays_182 : decode cX11_plays 182 = .ok (.iconst 2, 1) := by decide +kernel
theorem dX11_plays_183 : decode cX11_plays 183 = .ok (.iadd, 1) := by decide +kernel
theorem dX11_plays_184 : decode cX11_plays 184 = .ok (.iaload, 1) := by decide +kernel
theorem dX11_plays_185 : decode cX11_plays 185 = .ok (.invokevirtual 165, 3) := by decide +kernel
theorem dX11_plays_188 : decode cX11_plays 188 = .ok (.istore 6, 2) := by decide +kernel
theorem dX11_plays_190 : decode cX11_plays 190 = .ok (.iload 4, 2) := by decide +kernel
theorem dX11_plays_192 : decode cX11_plays 192 = .ok (.iload_n 2, 1) := by decide +kernel
theorem dX11_plays_193 : decode cX11_plays 193 = .ok (.ifCond .eq 11, 3) := by decide +kernel
theorem dX11_plays_196 : decode cX11_plays 196 = .ok (.iload 6, 2) := by decide +kernel
theorem dX11_plays_198 : decode cX11_plays 198 = .ok (.ifCond .lt 26, 3) := by decide +kernel
theorem dX11_plays_201 : decode cX11_plays 201 = .ok (.goto 19, 3) := by decide +kernel
theorem dX11_plays_204 : decode cX11_plays 204 = .ok (.iload 6, 2) := by decide +kernel
theorem dX11_plays_206 : decode cX11_plays 206 = .ok (.aload_n 0, 1) := by decide +kernel
theorem dX11_plays_207 : decode cX11_plays 207 = .ok (.getfield 25, 3) := by decide +kernel
theorem dX11_plays_210 : decode cX11_plays 210 = .ok (.iconst 4, 1) := by decide +kernel
theorem dX11_plays_211 : decode cX11_plays 211 = .ok (.iload 5, 2) := by decide +kernel
theorem dX11_plays_213 : decode cX11_plays 213 = .ok (.imul, 1) := by decide +kernel
theorem dX11_plays_214 : decode cX11_plays 214 = .ok (.iconst 3, 1) := by decide +kernel
theorem dX11_plays_215 : decode cX11_plays 215 = .ok (.iadd, 1) := by decide +kernel
theorem dX11_plays_216 : decode cX11_plays 216 = .ok (.iaload, 1) := by decide +kernel
theorem dX11_plays_217 : decode cX11_plays 217 = .ok (.if_icmp .eq 7, 3) := by decide +kernel
theorem dX11_plays_220 : decode cX11_plays 220 = .ok (.iconst 1, 1) := by decide +kernel
theorem dX11_plays_221 : decode cX11_plays 221 = .ok (.goto 4, 3) := by decide +kernel
theorem dX11_plays_224 : decode cX11_plays 224 = .ok (.iconst 0, 1) := by decide +kernel
theorem dX11_plays_225 : decode cX11_plays 225 = .ok (.iadd, 1) := by decide +kernel
theorem dX11_plays_226 : decode cX11_plays 226 = .ok (.istore 4, 2) := by decide +kernel
theorem dX11_plays_228 : decode cX11_plays 228 = .ok (.iinc 5 1, 3) := by decide +kernel
theorem dX11_plays_231 : decode cX11_plays 231 = .ok (.goto (-143), 3) := by decide +kernel
theorem dX11_plays_234 : decode cX11_plays 234 = .ok (.aload_n 0, 1) := by decide +kernel
theorem dX11_plays_235 : decode cX11_plays 235 = .ok (.iconst (-1), 1) := by decide +kernel
theorem dX11_plays_236 : decode cX11_plays 236 = .ok (.putfield 37, 3) := by decide +kernel
theorem dX11_plays_239 : decode cX11_plays 239 = .ok (.aload_n 0, 1) := by decide +kernel
theorem dX11_plays_240 : decode cX11_plays 240 = .ok (.iload_n 3, 1) := by decide +kernel
theorem dX11_plays_241 : decode cX11_plays 241 = .ok (.putfield 74, 3) := by decide +kernel
theorem dX11_plays_244 : decode cX11_plays 244 = .ok (.iconst 0, 1) := by decide +kernel
theorem dX11_plays_245 : decode cX11_plays 245 = .ok (.istore 5, 2) := by decide +kernel
theorem dX11_plays_247 : decode cX11_plays 247 = .ok (.iload 5, 2) := by decide +kernel
theorem dX11_plays_249 : decode cX11_plays 249 = .ok (.iload_n 3, 1) := by decide +kernel
theorem dX11_plays_250 : decode cX11_plays 250 = .ok (.if_icmp .ge 23, 3) := by decide +kernel
theorem dX11_plays_253 : decode cX11_plays 253 = .ok (.aload_n 0, 1) := by decide +kernel
theorem dX11_plays_254 : decode cX11_plays 254 = .ok (.getfield 22, 3) := by decide +kernel
theorem dX11_plays_257 : decode cX11_plays 257 = .ok (.iload 5, 2) := by decide +kernel
theorem dX11_plays_259 : decode cX11_plays 259 = .ok (.aload_n 0, 1) := by decide +kernel
theorem dX11_plays_260 : decode cX11_plays 260 = .ok (.getfield 41, 3) := by decide +kernel
theorem dX11_plays_263 : decode cX11_plays 263 = .ok (.iload 5, 2) := by decide +kernel
theorem dX11_plays_265 : decode cX11_plays 265 = .ok (.iaload, 1) := by decide +kernel
theorem dX11_plays_266 : decode cX11_plays 266 = .ok (.iastore, 1) := by decide +kernel
theorem dX11_plays_267 : decode cX11_plays 267 = .ok (.iinc 5 1, 3) := by decide +kernel
theorem dX11_plays_270 : decode cX11_plays 270 = .ok (.goto (-23), 3) := by decide +kernel
theorem dX11_plays_273 : decode cX11_plays 273 = .ok (.aload_n 0, 1) := by decide +kernel
theorem dX11_plays_274 : decode cX11_plays 274 = .ok (.getfield 19, 3) := by decide +kernel
theorem dX11_plays_277 : decode cX11_plays 277 = .ok (.aload_n 0, 1) := by decide +kernel
theorem dX11_plays_278 : decode cX11_plays 278 = .ok (.getfield 9, 3) := by decide +kernel
theorem dX11_plays_281 : decode cX11_plays 281 = .ok (.invokestatic 168, 3) := by decide +kernel
theorem dX11_plays_284 : decode cX11_plays 284 = .ok (.iload 4, 2) := by decide +kernel
theorem dX11_plays_286 : decode cX11_plays 286 = .ok (.ireturn, 1) := by decide +kernel
theorem dX11_play_0 : decode cX11_play 0 = .ok (.aload_n 0, 1) := by decide +kernel
theorem dX11_play_1 : decode cX11_play 1 = .ok (.iload_n 1, 1) := by decide +kernel
theorem dX11_play_2 : decode cX11_play 2 = .ok (.iconst 0, 1) := by decide +kernel
theorem dX11_play_3 : decode cX11_play 3 = .ok (.invokevirtual 188, 3) := by decide +kernel
theorem dX11_play_6 : decode cX11_play 6 = .ok (.ireturn, 1) := by decide +kernel
theorem dX11_answeredIf_0 : decode cX11_answeredIf 0 = .ok (.aload_n 0, 1) := by decide +kernel
theorem dX11_answeredIf_1 : decode cX11_answeredIf 1 = .ok (.iload_n 1, 1) := by decide +kernel
theorem dX11_answeredIf_2 : decode cX11_answeredIf 2 = .ok (.iconst 1, 1) := by decide +kernel
theorem dX11_answeredIf_3 : decode cX11_answeredIf 3 = .ok (.invokevirtual 188, 3) := by decide +kernel
theorem dX11_answeredIf_6 : decode cX11_answeredIf 6 = .ok (.ireturn, 1) := by decide +kernel
theorem dX11_save_0 : decode cX11_save 0 = .ok (.aload_n 0, 1) := by decide +kernel
theorem dX11_save_1 : decode cX11_save 1 = .ok (.getfield 9, 3) := by decide +kernel
theorem dX11_save_4 : decode cX11_save 4 = .ok (.aload_n 0, 1) := by decide +kernel
theorem dX11_save_5 : decode cX11_save 5 = .ok (.getfield 13, 3) := by decide +kernel
theorem dX11_save_8 : decode cX11_save 8 = .ok (.invokestatic 168, 3) := by decide +kernel
theorem dX11_save_11 : decode cX11_save 11 = .ok (.aload_n 0, 1) := by decide +kernel
theorem dX11_save_12 : decode cX11_save 12 = .ok (.iconst 1, 1) := by decide +kernel
theorem dX11_save_13 : decode cX11_save 13 = .ok (.putfield 191, 3) := by decide +kernel
theorem dX11_save_16 : decode cX11_save 16 = .ok (.aload_n 0, 1) := by decide +kernel
theorem dX11_save_17 : decode cX11_save 17 = .ok (.getfield 9, 3) := by decide +kernel
theorem dX11_save_20 : decode cX11_save 20 = .ok (.sipush 144, 3) := by decide +kernel
theorem dX11_save_23 : decode cX11_save 23 = .ok (.iaload, 1) := by decide +kernel
theorem dX11_save_24 : decode cX11_save 24 = .ok (.ireturn, 1) := by decide +kernel
theorem dX11_restore_0 : decode cX11_restore 0 = .ok (.aload_n 0, 1) := by decide +kernel
theorem dX11_restore_1 : decode cX11_restore 1 = .ok (.getfield 191, 3) := by decide +kernel
theorem dX11_restore_4 : decode cX11_restore 4 = .ok (.ifCond .ne 5, 3) := by decide +kernel
theorem dX11_restore_7 : decode cX11_restore 7 = .ok (.iconst (-1), 1) := by decide +kernel
theorem dX11_restore_8 : decode cX11_restore 8 = .ok (.ireturn, 1) := by decide +kernel
theorem dX11_restore_9 : decode cX11_restore 9 = .ok (.aload_n 0, 1) := by decide +kernel
theorem dX11_restore_10 : decode cX11_restore 10 = .ok (.invokevirtual 55, 3) := by decide +kernel
theorem dX11_restore_13 : decode cX11_restore 13 = .ok (.aload_n 0, 1) := by decide +kernel
theorem dX11_restore_14 : decode cX11_restore 14 = .ok (.getfield 13, 3) := by decide +kernel
theorem dX11_restore_17 : decode cX11_restore 17 = .ok (.aload_n 0, 1) := by decide +kernel
theorem dX11_restore_18 : decode cX11_restore 18 = .ok (.getfield 9, 3) := by decide +kernel
theorem dX11_restore_21 : decode cX11_restore 21 = .ok (.invokestatic 168, 3) := by decide +kernel
theorem dX11_restore_24 : decode cX11_restore 24 = .ok (.aload_n 0, 1) := by decide +kernel
theorem dX11_restore_25 : decode cX11_restore 25 = .ok (.getfield 9, 3) := by decide +kernel
theorem dX11_restore_28 : decode cX11_restore 28 = .ok (.sipush 706, 3) := by decide +kernel
theorem dX11_restore_31 : decode cX11_restore 31 = .ok (.iconst 0, 1) := by decide +kernel
theorem dX11_restore_32 : decode cX11_restore 32 = .ok (.iastore, 1) := by decide +kernel
theorem dX11_restore_33 : decode cX11_restore 33 = .ok (.aload_n 0, 1) := by decide +kernel
theorem dX11_restore_34 : decode cX11_restore 34 = .ok (.getfield 9, 3) := by decide +kernel
theorem dX11_restore_37 : decode cX11_restore 37 = .ok (.sipush 144, 3) := by decide +kernel
theorem dX11_restore_40 : decode cX11_restore 40 = .ok (.iaload, 1) := by decide +kernel
theorem dX11_restore_41 : decode cX11_restore 41 = .ok (.ireturn, 1) := by decide +kernel
theorem dL_law_0 : decode cL_law 0 = .ok (.new 7, 3) := by decide +kernel
theorem dL_law_3 : decode cL_law 3 = .ok (.dup, 1) := by decide +kernel
theorem dL_law_4 : decode cL_law 4 = .ok (.invokespecial 9, 3) := by decide +kernel
theorem dL_law_7 : decode cL_law 7 = .ok (.astore_n 1, 1) := by decide +kernel
theorem dL_law_8 : decode cL_law 8 = .ok (.new 10, 3) := by decide +kernel
theorem dL_law_11 : decode cL_law 11 = .ok (.dup, 1) := by decide +kernel
theorem dL_law_12 : decode cL_law 12 = .ok (.invokespecial 12, 3) := by decide +kernel
theorem dL_law_15 : decode cL_law 15 = .ok (.astore_n 2, 1) := by decide +kernel
theorem dL_law_16 : decode cL_law 16 = .ok (.iconst 0, 1) := by decide +kernel
theorem dL_law_17 : decode cL_law 17 = .ok (.istore_n 3, 1) := by decide +kernel
theorem dL_law_18 : decode cL_law 18 = .ok (.iload_n 3, 1) := by decide +kernel
theorem dL_law_19 : decode cL_law 19 = .ok (.aload_n 0, 1) := by decide +kernel
theorem dL_law_20 : decode cL_law 20 = .ok (.arraylength, 1) := by decide +kernel
theorem dL_law_21 : decode cL_law 21 = .ok (.bipush 7, 2) := by decide +kernel
theorem dL_law_23 : decode cL_law 23 = .ok (.isub, 1) := by decide +kernel
theorem dL_law_24 : decode cL_law 24 = .ok (.if_icmp .gt 884, 3) := by decide +kernel
theorem dL_law_27 : decode cL_law 27 = .ok (.aload_n 0, 1) := by decide +kernel
theorem dL_law_28 : decode cL_law 28 = .ok (.iload_n 3, 1) := by decide +kernel
theorem dL_law_29 : decode cL_law 29 = .ok (.iaload, 1) := by decide +kernel
theorem dL_law_30 : decode cL_law 30 = .ok (.bipush 31, 2) := by decide +kernel
theorem dL_law_32 : decode cL_law 32 = .ok (.iand, 1) := by decide +kernel
theorem dL_law_33 : decode cL_law 33 = .ok (.tableswitch 869 0 25 #[119, 162, 195, 228, 303, 326, 359, 372, 395, 428, 451, 484, 517, 540, 573, 606, 639, 682, 715, 738, 761, 784, 797, 820, 843, 856], 119) := by decide +kernel
theorem dL_law_152 : decode cL_law 152 = .ok (.aload_n 1, 1) := by decide +kernel
theorem dL_law_153 : decode cL_law 153 = .ok (.aload_n 0, 1) := by decide +kernel
theorem dL_law_154 : decode cL_law 154 = .ok (.iload_n 3, 1) := by decide +kernel
theorem dL_law_155 : decode cL_law 155 = .ok (.iconst 1, 1) := by decide +kernel
theorem dL_law_156 : decode cL_law 156 = .ok (.iadd, 1) := by decide +kernel
theorem dL_law_157 : decode cL_law 157 = .ok (.iaload, 1) := by decide +kernel
theorem dL_law_158 : decode cL_law 158 = .ok (.aload_n 0, 1) := by decide +kernel
theorem dL_law_159 : decode cL_law 159 = .ok (.iload_n 3, 1) := by decide +kernel
theorem dL_law_160 : decode cL_law 160 = .ok (.iconst 2, 1) := by decide +kernel
theorem dL_law_161 : decode cL_law 161 = .ok (.iadd, 1) := by decide +kernel
theorem dL_law_162 : decode cL_law 162 = .ok (.iaload, 1) := by decide +kernel
theorem dL_law_163 : decode cL_law 163 = .ok (.aload_n 0, 1) := by decide +kernel
theorem dL_law_164 : decode cL_law 164 = .ok (.iload_n 3, 1) := by decide +kernel
theorem dL_law_165 : decode cL_law 165 = .ok (.iconst 3, 1) := by decide +kernel
theorem dL_law_166 : decode cL_law 166 = .ok (.iadd, 1) := by decide +kernel
theorem dL_law_167 : decode cL_law 167 = .ok (.iaload, 1) := by decide +kernel
theorem dL_law_168 : decode cL_law 168 = .ok (.invokevirtual 13, 3) := by decide +kernel
theorem dL_law_171 : decode cL_law 171 = .ok (.aload_n 2, 1) := by decide +kernel
theorem dL_law_172 : decode cL_law 172 = .ok (.aload_n 0, 1) := by decide +kernel
theorem dL_law_173 : decode cL_law 173 = .ok (.iload_n 3, 1) := by decide +kernel
theorem dL_law_174 : decode cL_law 174 = .ok (.iconst 1, 1) := by decide +kernel
theorem dL_law_175 : decode cL_law 175 = .ok (.iadd, 1) := by decide +kernel
theorem dL_law_176 : decode cL_law 176 = .ok (.iaload, 1) := by decide +kernel
theorem dL_law_177 : decode cL_law 177 = .ok (.aload_n 0, 1) := by decide +kernel
theorem dL_law_178 : decode cL_law 178 = .ok (.iload_n 3, 1) := by decide +kernel
theorem dL_law_179 : decode cL_law 179 = .ok (.iconst 2, 1) := by decide +kernel
theorem dL_law_180 : decode cL_law 180 = .ok (.iadd, 1) := by decide +kernel
theorem dL_law_181 : decode cL_law 181 = .ok (.iaload, 1) := by decide +kernel
theorem dL_law_182 : decode cL_law 182 = .ok (.aload_n 0, 1) := by decide +kernel
theorem dL_law_183 : decode cL_law 183 = .ok (.iload_n 3, 1) := by decide +kernel
theorem dL_law_184 : decode cL_law 184 = .ok (.iconst 3, 1) := by decide +kernel
theorem dL_law_185 : decode cL_law 185 = .ok (.iadd, 1) := by decide +kernel
theorem dL_law_186 : decode cL_law 186 = .ok (.iaload, 1) := by decide +kernel
theorem dL_law_187 : decode cL_law 187 = .ok (.invokevirtual 17, 3) := by decide +kernel
theorem dL_law_190 : decode cL_law 190 = .ok (.if_icmp .eq 712, 3) := by decide +kernel
theorem dL_law_193 : decode cL_law 193 = .ok (.iconst 0, 1) := by decide +kernel
theorem dL_law_194 : decode cL_law 194 = .ok (.ireturn, 1) := by decide +kernel
theorem dL_law_195 : decode cL_law 195 = .ok (.aload_n 1, 1) := by decide +kernel
theorem dL_law_196 : decode cL_law 196 = .ok (.aload_n 0, 1) := by decide +kernel
theorem dL_law_197 : decode cL_law 197 = .ok (.iload_n 3, 1) := by decide +kernel
theorem dL_law_198 : decode cL_law 198 = .ok (.iconst 1, 1) := by decide +kernel
theorem dL_law_199 : decode cL_law 199 = .ok (.iadd, 1) := by decide +kernel
theorem dL_law_200 : decode cL_law 200 = .ok (.iaload, 1) := by decide +kernel
theorem dL_law_201 : decode cL_law 201 = .ok (.aload_n 0, 1) := by decide +kernel
theorem dL_law_202 : decode cL_law 202 = .ok (.iload_n 3, 1) := by decide +kernel
theorem dL_law_203 : decode cL_law 203 = .ok (.iconst 2, 1) := by decide +kernel
theorem dL_law_204 : decode cL_law 204 = .ok (.iadd, 1) := by decide +kernel
theorem dL_law_205 : decode cL_law 205 = .ok (.iaload, 1) := by decide +kernel
theorem dL_law_206 : decode cL_law 206 = .ok (.invokevirtual 18, 3) := by decide +kernel
theorem dL_law_209 : decode cL_law 209 = .ok (.aload_n 2, 1) := by decide +kernel
theorem dL_law_210 : decode cL_law 210 = .ok (.aload_n 0, 1) := by decide +kernel
theorem dL_law_211 : decode cL_law 211 = .ok (.iload_n 3, 1) := by decide +kernel
theorem dL_law_212 : decode cL_law 212 = .ok (.iconst 1, 1) := by decide +kernel
theorem dL_law_213 : decode cL_law 213 = .ok (.iadd, 1) := by decide +kernel
theorem dL_law_214 : decode cL_law 214 = .ok (.iaload, 1) := by decide +kernel
theorem dL_law_215 : decode cL_law 215 = .ok (.aload_n 0, 1) := by decide +kernel
theorem dL_law_216 : decode cL_law 216 = .ok (.iload_n 3, 1) := by decide +kernel
theorem dL_law_217 : decode cL_law 217 = .ok (.iconst 2, 1) := by decide +kernel
theorem dL_law_218 : decode cL_law 218 = .ok (.iadd, 1) := by decide +kernel
theorem dL_law_219 : decode cL_law 219 = .ok (.iaload, 1) := by decide +kernel
theorem dL_law_220 : decode cL_law 220 = .ok (.invokevirtual 22, 3) := by decide +kernel
theorem dL_law_223 : decode cL_law 223 = .ok (.if_icmp .eq 679, 3) := by decide +kernel
theorem dL_law_226 : decode cL_law 226 = .ok (.iconst 0, 1) := by decide +kernel
theorem dL_law_227 : decode cL_law 227 = .ok (.ireturn, 1) := by decide +kernel
theorem dL_law_228 : decode cL_law 228 = .ok (.aload_n 1, 1) := by decide +kernel
theorem dL_law_229 : decode cL_law 229 = .ok (.aload_n 0, 1) := by decide +kernel
theorem dL_law_230 : decode cL_law 230 = .ok (.iload_n 3, 1) := by decide +kernel
theorem dL_law_231 : decode cL_law 231 = .ok (.iconst 1, 1) := by decide +kernel
theorem dL_law_232 : decode cL_law 232 = .ok (.iadd, 1) := by decide +kernel
theorem dL_law_233 : decode cL_law 233 = .ok (.iaload, 1) := by decide +kernel
theorem dL_law_234 : decode cL_law 234 = .ok (.aload_n 0, 1) := by decide +kernel
theorem dL_law_235 : decode cL_law 235 = .ok (.iload_n 3, 1) := by decide +kernel
theorem dL_law_236 : decode cL_law 236 = .ok (.iconst 2, 1) := by decide +kernel
theorem dL_law_237 : decode cL_law 237 = .ok (.iadd, 1) := by decide +kernel
theorem dL_law_238 : decode cL_law 238 = .ok (.iaload, 1) := by decide +kernel
theorem dL_law_239 : decode cL_law 239 = .ok (.invokevirtual 23, 3) := by decide +kernel
theorem dL_law_242 : decode cL_law 242 = .ok (.aload_n 2, 1) := by decide +kernel
theorem dL_law_243 : decode cL_law 243 = .ok (.aload_n 0, 1) := by decide +kernel
theorem dL_law_244 : decode cL_law 244 = .ok (.iload_n 3, 1) := by decide +kernel
theorem dL_law_245 : decode cL_law 245 = .ok (.iconst 1, 1) := by decide +kernel
theorem dL_law_246 : decode cL_law 246 = .ok (.iadd, 1) := by decide +kernel
theorem dL_law_247 : decode cL_law 247 = .ok (.iaload, 1) := by decide +kernel
theorem dL_law_248 : decode cL_law 248 = .ok (.aload_n 0, 1) := by decide +kernel
theorem dL_law_249 : decode cL_law 249 = .ok (.iload_n 3, 1) := by decide +kernel
theorem dL_law_250 : decode cL_law 250 = .ok (.iconst 2, 1) := by decide +kernel
theorem dL_law_251 : decode cL_law 251 = .ok (.iadd, 1) := by decide +kernel
theorem dL_law_252 : decode cL_law 252 = .ok (.iaload, 1) := by decide +kernel
theorem dL_law_253 : decode cL_law 253 = .ok (.invokevirtual 26, 3) := by decide +kernel
theorem dL_law_256 : decode cL_law 256 = .ok (.if_icmp .eq 646, 3) := by decide +kernel
theorem dL_law_259 : decode cL_law 259 = .ok (.iconst 0, 1) := by decide +kernel
theorem dL_law_260 : decode cL_law 260 = .ok (.ireturn, 1) := by decide +kernel
theorem dL_law_261 : decode cL_law 261 = .ok (.aload_n 1, 1) := by decide +kernel
theorem dL_law_262 : decode cL_law 262 = .ok (.aload_n 0, 1) := by decide +kernel
theorem dL_law_263 : decode cL_law 263 = .ok (.iload_n 3, 1) := by decide +kernel
theorem dL_law_264 : decode cL_law 264 = .ok (.iconst 1, 1) := by decide +kernel
theorem dL_law_265 : decode cL_law 265 = .ok (.iadd, 1) := by decide +kernel
theorem dL_law_266 : decode cL_law 266 = .ok (.iaload, 1) := by decide +kernel
theorem dL_law_267 : decode cL_law 267 = .ok (.aload_n 0, 1) := by decide +kernel
theorem dL_law_268 : decode cL_law 268 = .ok (.iload_n 3, 1) := by decide +kernel
theorem dL_law_269 : decode cL_law 269 = .ok (.iconst 2, 1) := by decide +kernel
theorem dL_law_270 : decode cL_law 270 = .ok (.iadd, 1) := by decide +kernel
theorem dL_law_271 : decode cL_law 271 = .ok (.iaload, 1) := by decide +kernel
theorem dL_law_272 : decode cL_law 272 = .ok (.aload_n 0, 1) := by decide +kernel
theorem dL_law_273 : decode cL_law 273 = .ok (.iload_n 3, 1) := by decide +kernel
theorem dL_law_274 : decode cL_law 274 = .ok (.iconst 3, 1) := by decide +kernel
theorem dL_law_275 : decode cL_law 275 = .ok (.iadd, 1) := by decide +kernel
theorem dL_law_276 : decode cL_law 276 = .ok (.iaload, 1) := by decide +kernel
theorem dL_law_277 : decode cL_law 277 = .ok (.aload_n 0, 1) := by decide +kernel
theorem dL_law_278 : decode cL_law 278 = .ok (.iload_n 3, 1) := by decide +kernel
theorem dL_law_279 : decode cL_law 279 = .ok (.iconst 4, 1) := by decide +kernel
theorem dL_law_280 : decode cL_law 280 = .ok (.iadd, 1) := by decide +kernel
theorem dL_law_281 : decode cL_law 281 = .ok (.iaload, 1) := by decide +kernel
theorem dL_law_282 : decode cL_law 282 = .ok (.aload_n 0, 1) := by decide +kernel
theorem dL_law_283 : decode cL_law 283 = .ok (.iload_n 3, 1) := by decide +kernel
theorem dL_law_284 : decode cL_law 284 = .ok (.iconst 5, 1) := by decide +kernel
theorem dL_law_285 : decode cL_law 285 = .ok (.iadd, 1) := by decide +kernel
theorem dL_law_286 : decode cL_law 286 = .ok (.iaload, 1) := by decide +kernel
theorem dL_law_287 : decode cL_law 287 = .ok (.aload_n 0, 1) := by decide +kernel
theorem dL_law_288 : decode cL_law 288 = .ok (.iload_n 3, 1) := by decide +kernel
theorem dL_law_289 : decode cL_law 289 = .ok (.bipush 6, 2) := by decide +kernel
theorem dL_law_291 : decode cL_law 291 = .ok (.iadd, 1) := by decide +kernel
theorem dL_law_292 : decode cL_law 292 = .ok (.iaload, 1) := by decide +kernel
theorem dL_law_293 : decode cL_law 293 = .ok (.invokevirtual 27, 3) := by decide +kernel
theorem dL_law_296 : decode cL_law 296 = .ok (.aload_n 2, 1) := by decide +kernel
theorem dL_law_297 : decode cL_law 297 = .ok (.aload_n 0, 1) := by decide +kernel
theorem dL_law_298 : decode cL_law 298 = .ok (.iload_n 3, 1) := by decide +kernel
theorem dL_law_299 : decode cL_law 299 = .ok (.iconst 1, 1) := by decide +kernel
theorem dL_law_300 : decode cL_law 300 = .ok (.iadd, 1) := by decide +kernel
theorem dL_law_301 : decode cL_law 301 = .ok (.iaload, 1) := by decide +kernel
theorem dL_law_302 : decode cL_law 302 = .ok (.aload_n 0, 1) := by decide +kernel
theorem dL_law_303 : decode cL_law 303 = .ok (.iload_n 3, 1) := by decide +kernel
theorem dL_law_304 : decode cL_law 304 = .ok (.iconst 2, 1) := by decide +kernel
theorem dL_law_305 : decode cL_law 305 = .ok (.iadd, 1) := by decide +kernel
theorem dL_law_306 : decode cL_law 306 = .ok (.iaload, 1) := by decide +kernel
theorem dL_law_307 : decode cL_law 307 = .ok (.aload_n 0, 1) := by decide +kernel
theorem dL_law_308 : decode cL_law 308 = .ok (.iload_n 3, 1) := by decide +kernel
theorem dL_law_309 : decode cL_law 309 = .ok (.iconst 3, 1) := by decide +kernel
theorem dL_law_310 : decode cL_law 310 = .ok (.iadd, 1) := by decide +kernel
theorem dL_law_311 : decode cL_law 311 = .ok (.iaload, 1) := by decide +kernel
theorem dL_law_312 : decode cL_law 312 = .ok (.aload_n 0, 1) := by decide +kernel
theorem dL_law_313 : decode cL_law 313 = .ok (.iload_n 3, 1) := by decide +kernel
theorem dL_law_314 : decode cL_law 314 = .ok (.iconst 4, 1) := by decide +kernel
theorem dL_law_315 : decode cL_law 315 = .ok (.iadd, 1) := by decide +kernel
theorem dL_law_316 : decode cL_law 316 = .ok (.iaload, 1) := by decide +kernel
theorem dL_law_317 : decode cL_law 317 = .ok (.aload_n 0, 1) := by decide +kernel
theorem dL_law_318 : decode cL_law 318 = .ok (.iload_n 3, 1) := by decide +kernel
theorem dL_law_319 : decode cL_law 319 = .ok (.iconst 5, 1) := by decide +kernel
theorem dL_law_320 : decode cL_law 320 = .ok (.iadd, 1) := by decide +kernel
theorem dL_law_321 : decode cL_law 321 = .ok (.iaload, 1) := by decide +kernel
theorem dL_law_322 : decode cL_law 322 = .ok (.aload_n 0, 1) := by decide +kernel
theorem dL_law_323 : decode cL_law 323 = .ok (.iload_n 3, 1) := by decide +kernel
theorem dL_law_324 : decode cL_law 324 = .ok (.bipush 6, 2) := by decide +kernel
theorem dL_law_326 : decode cL_law 326 = .ok (.iadd, 1) := by decide +kernel
theorem dL_law_327 : decode cL_law 327 = .ok (.iaload, 1) := by decide +kernel
theorem dL_law_328 : decode cL_law 328 = .ok (.invokevirtual 31, 3) := by decide +kernel
theorem dL_law_331 : decode cL_law 331 = .ok (.if_icmp .eq 571, 3) := by decide +kernel
theorem dL_law_334 : decode cL_law 334 = .ok (.iconst 0, 1) := by decide +kernel
theorem dL_law_335 : decode cL_law 335 = .ok (.ireturn, 1) := by decide +kernel
theorem dL_law_336 : decode cL_law 336 = .ok (.aload_n 1, 1) := by decide +kernel
theorem dL_law_337 : decode cL_law 337 = .ok (.aload_n 0, 1) := by decide +kernel
theorem dL_law_338 : decode cL_law 338 = .ok (.iload_n 3, 1) := by decide +kernel
theorem dL_law_339 : decode cL_law 339 = .ok (.iconst 1, 1) := by decide +kernel
theorem dL_law_340 : decode cL_law 340 = .ok (.iadd, 1) := by decide +kernel
theorem dL_law_341 : decode cL_law 341 = .ok (.iaload, 1) := by decide +kernel
theorem dL_law_342 : decode cL_law 342 = .ok (.invokevirtual 32, 3) := by decide +kernel
theorem dL_law_345 : decode cL_law 345 = .ok (.aload_n 2, 1) := by decide +kernel
theorem dL_law_346 : decode cL_law 346 = .ok (.aload_n 0, 1) := by decide +kernel
theorem dL_law_347 : decode cL_law 347 = .ok (.iload_n 3, 1) := by decide +kernel
theorem dL_law_348 : decode cL_law 348 = .ok (.iconst 1, 1) := by decide +kernel
theorem dL_law_349 : decode cL_law 349 = .ok (.iadd, 1) := by decide +kernel
theorem dL_law_350 : decode cL_law 350 = .ok (.iaload, 1) := by decide +kernel
theorem dL_law_351 : decode cL_law 351 = .ok (.invokevirtual 36, 3) := by decide +kernel
theorem dL_law_354 : decode cL_law 354 = .ok (.if_icmp .eq 548, 3) := by decide +kernel
theorem dL_law_357 : decode cL_law 357 = .ok (.iconst 0, 1) := by decide +kernel
theorem dL_law_358 : decode cL_law 358 = .ok (.ireturn, 1) := by decide +kernel
theorem dL_law_359 : decode cL_law 359 = .ok (.aload_n 1, 1) := by decide +kernel
theorem dL_law_360 : decode cL_law 360 = .ok (.aload_n 0, 1) := by decide +kernel
theorem dL_law_361 : decode cL_law 361 = .ok (.iload_n 3, 1) := by decide +kernel
theorem dL_law_362 : decode cL_law 362 = .ok (.iconst 1, 1) := by decide +kernel
theorem dL_law_363 : decode cL_law 363 = .ok (.iadd, 1) := by decide +kernel
theorem dL_law_364 : decode cL_law 364 = .ok (.iaload, 1) := by decide +kernel
theorem dL_law_365 : decode cL_law 365 = .ok (.aload_n 0, 1) := by decide +kernel
theorem dL_law_366 : decode cL_law 366 = .ok (.iload_n 3, 1) := by decide +kernel
theorem dL_law_367 : decode cL_law 367 = .ok (.iconst 2, 1) := by decide +kernel
theorem dL_law_368 : decode cL_law 368 = .ok (.iadd, 1) := by decide +kernel
theorem dL_law_369 : decode cL_law 369 = .ok (.iaload, 1) := by decide +kernel
theorem dL_law_370 : decode cL_law 370 = .ok (.invokevirtual 37, 3) := by decide +kernel
theorem dL_law_373 : decode cL_law 373 = .ok (.aload_n 2, 1) := by decide +kernel
theorem dL_law_374 : decode cL_law 374 = .ok (.aload_n 0, 1) := by decide +kernel
theorem dL_law_375 : decode cL_law 375 = .ok (.iload_n 3, 1) := by decide +kernel
theorem dL_law_376 : decode cL_law 376 = .ok (.iconst 1, 1) := by decide +kernel
theorem dL_law_377 : decode cL_law 377 = .ok (.iadd, 1) := by decide +kernel
theorem dL_law_378 : decode cL_law 378 = .ok (.iaload, 1) := by decide +kernel
theorem dL_law_379 : decode cL_law 379 = .ok (.aload_n 0, 1) := by decide +kernel
theorem dL_law_380 : decode cL_law 380 = .ok (.iload_n 3, 1) := by decide +kernel
theorem dL_law_381 : decode cL_law 381 = .ok (.iconst 2, 1) := by decide +kernel
theorem dL_law_382 : decode cL_law 382 = .ok (.iadd, 1) := by decide +kernel
theorem dL_law_383 : decode cL_law 383 = .ok (.iaload, 1) := by decide +kernel
theorem dL_law_384 : decode cL_law 384 = .ok (.invokevirtual 40, 3) := by decide +kernel
theorem dL_law_387 : decode cL_law 387 = .ok (.if_icmp .eq 515, 3) := by decide +kernel
theorem dL_law_390 : decode cL_law 390 = .ok (.iconst 0, 1) := by decide +kernel
theorem dL_law_391 : decode cL_law 391 = .ok (.ireturn, 1) := by decide +kernel
theorem dL_law_392 : decode cL_law 392 = .ok (.aload_n 1, 1) := by decide +kernel
theorem dL_law_393 : decode cL_law 393 = .ok (.invokevirtual 41, 3) := by decide +kernel
theorem dL_law_396 : decode cL_law 396 = .ok (.aload_n 2, 1) := by decide +kernel
theorem dL_law_397 : decode cL_law 397 = .ok (.invokevirtual 45, 3) := by decide +kernel
theorem dL_law_400 : decode cL_law 400 = .ok (.if_icmp .eq 502, 3) := by decide +kernel
theorem dL_law_403 : decode cL_law 403 = .ok (.iconst 0, 1) := by decide +kernel
theorem dL_law_404 : decode cL_law 404 = .ok (.ireturn, 1) := by decide +kernel
theorem dL_law_405 : decode cL_law 405 = .ok (.aload_n 1, 1) := by decide +kernel
theorem dL_law_406 : decode cL_law 406 = .ok (.aload_n 0, 1) := by decide +kernel
theorem dL_law_407 : decode cL_law 407 = .ok (.iload_n 3, 1) := by decide +kernel
theorem dL_law_408 : decode cL_law 408 = .ok (.iconst 1, 1) := by decide +kernel
theorem dL_law_409 : decode cL_law 409 = .ok (.iadd, 1) := by decide +kernel
theorem dL_law_410 : decode cL_law 410 = .ok (.iaload, 1) := by decide +kernel
theorem dL_law_411 : decode cL_law 411 = .ok (.invokevirtual 46, 3) := by decide +kernel
theorem dL_law_414 : decode cL_law 414 = .ok (.aload_n 2, 1) := by decide +kernel
theorem dL_law_415 : decode cL_law 415 = .ok (.aload_n 0, 1) := by decide +kernel
theorem dL_law_416 : decode cL_law 416 = .ok (.iload_n 3, 1) := by decide +kernel
theorem dL_law_417 : decode cL_law 417 = .ok (.iconst 1, 1) := by decide +kernel
theorem dL_law_418 : decode cL_law 418 = .ok (.iadd, 1) := by decide +kernel
theorem dL_law_419 : decode cL_law 419 = .ok (.iaload, 1) := by decide +kernel
theorem dL_law_420 : decode cL_law 420 = .ok (.invokevirtual 49, 3) := by decide +kernel
theorem dL_law_423 : decode cL_law 423 = .ok (.if_icmp .eq 479, 3) := by decide +kernel
theorem dL_law_426 : decode cL_law 426 = .ok (.iconst 0, 1) := by decide +kernel
theorem dL_law_427 : decode cL_law 427 = .ok (.ireturn, 1) := by decide +kernel
theorem dL_law_428 : decode cL_law 428 = .ok (.aload_n 1, 1) := by decide +kernel
theorem dL_law_429 : decode cL_law 429 = .ok (.aload_n 0, 1) := by decide +kernel
theorem dL_law_430 : decode cL_law 430 = .ok (.iload_n 3, 1) := by decide +kernel
theorem dL_law_431 : decode cL_law 431 = .ok (.iconst 1, 1) := by decide +kernel
theorem dL_law_432 : decode cL_law 432 = .ok (.iadd, 1) := by decide +kernel
theorem dL_law_433 : decode cL_law 433 = .ok (.iaload, 1) := by decide +kernel
theorem dL_law_434 : decode cL_law 434 = .ok (.aload_n 0, 1) := by decide +kernel
theorem dL_law_435 : decode cL_law 435 = .ok (.iload_n 3, 1) := by decide +kernel
theorem dL_law_436 : decode cL_law 436 = .ok (.iconst 2, 1) := by decide +kernel
theorem dL_law_437 : decode cL_law 437 = .ok (.iadd, 1) := by decide +kernel
theorem dL_law_438 : decode cL_law 438 = .ok (.iaload, 1) := by decide +kernel
theorem dL_law_439 : decode cL_law 439 = .ok (.invokevirtual 50, 3) := by decide +kernel
theorem dL_law_442 : decode cL_law 442 = .ok (.aload_n 2, 1) := by decide +kernel
theorem dL_law_443 : decode cL_law 443 = .ok (.aload_n 0, 1) := by decide +kernel
theorem dL_law_444 : decode cL_law 444 = .ok (.iload_n 3, 1) := by decide +kernel
theorem dL_law_445 : decode cL_law 445 = .ok (.iconst 1, 1) := by decide +kernel
theorem dL_law_446 : decode cL_law 446 = .ok (.iadd, 1) := by decide +kernel
theorem dL_law_447 : decode cL_law 447 = .ok (.iaload, 1) := by decide +kernel
theorem dL_law_448 : decode cL_law 448 = .ok (.aload_n 0, 1) := by decide +kernel
theorem dL_law_449 : decode cL_law 449 = .ok (.iload_n 3, 1) := by decide +kernel
theorem dL_law_450 : decode cL_law 450 = .ok (.iconst 2, 1) := by decide +kernel
theorem dL_law_451 : decode cL_law 451 = .ok (.iadd, 1) := by decide +kernel
theorem dL_law_452 : decode cL_law 452 = .ok (.iaload, 1) := by decide +kernel
theorem dL_law_453 : decode cL_law 453 = .ok (.invokevirtual 53, 3) := by decide +kernel
theorem dL_law_456 : decode cL_law 456 = .ok (.if_icmp .eq 446, 3) := by decide +kernel
theorem dL_law_459 : decode cL_law 459 = .ok (.iconst 0, 1) := by decide +kernel
theorem dL_law_460 : decode cL_law 460 = .ok (.ireturn, 1) := by decide +kernel
theorem dL_law_461 : decode cL_law 461 = .ok (.aload_n 1, 1) := by decide +kernel
theorem dL_law_462 : decode cL_law 462 = .ok (.aload_n 0, 1) := by decide +kernel
theorem dL_law_463 : decode cL_law 463 = .ok (.iload_n 3, 1) := by decide +kernel
theorem dL_law_464 : decode cL_law 464 = .ok (.iconst 1, 1) := by decide +kernel
theorem dL_law_465 : decode cL_law 465 = .ok (.iadd, 1) := by decide +kernel
theorem dL_law_466 : decode cL_law 466 = .ok (.iaload, 1) := by decide +kernel
theorem dL_law_467 : decode cL_law 467 = .ok (.invokevirtual 54, 3) := by decide +kernel
theorem dL_law_470 : decode cL_law 470 = .ok (.aload_n 2, 1) := by decide +kernel
theorem dL_law_471 : decode cL_law 471 = .ok (.aload_n 0, 1) := by decide +kernel
theorem dL_law_472 : decode cL_law 472 = .ok (.iload_n 3, 1) := by decide +kernel
theorem dL_law_473 : decode cL_law 473 = .ok (.iconst 1, 1) := by decide +kernel
theorem dL_law_474 : decode cL_law 474 = .ok (.iadd, 1) := by decide +kernel
theorem dL_law_475 : decode cL_law 475 = .ok (.iaload, 1) := by decide +kernel
theorem dL_law_476 : decode cL_law 476 = .ok (.invokevirtual 57, 3) := by decide +kernel
theorem dL_law_479 : decode cL_law 479 = .ok (.if_icmp .eq 423, 3) := by decide +kernel
theorem dL_law_482 : decode cL_law 482 = .ok (.iconst 0, 1) := by decide +kernel
theorem dL_law_483 : decode cL_law 483 = .ok (.ireturn, 1) := by decide +kernel
theorem dL_law_484 : decode cL_law 484 = .ok (.aload_n 1, 1) := by decide +kernel
theorem dL_law_485 : decode cL_law 485 = .ok (.aload_n 0, 1) := by decide +kernel
theorem dL_law_486 : decode cL_law 486 = .ok (.iload_n 3, 1) := by decide +kernel
theorem dL_law_487 : decode cL_law 487 = .ok (.iconst 1, 1) := by decide +kernel
theorem dL_law_488 : decode cL_law 488 = .ok (.iadd, 1) := by decide +kernel
theorem dL_law_489 : decode cL_law 489 = .ok (.iaload, 1) := by decide +kernel
theorem dL_law_490 : decode cL_law 490 = .ok (.aload_n 0, 1) := by decide +kernel
theorem dL_law_491 : decode cL_law 491 = .ok (.iload_n 3, 1) := by decide +kernel
theorem dL_law_492 : decode cL_law 492 = .ok (.iconst 2, 1) := by decide +kernel
theorem dL_law_493 : decode cL_law 493 = .ok (.iadd, 1) := by decide +kernel
theorem dL_law_494 : decode cL_law 494 = .ok (.iaload, 1) := by decide +kernel
theorem dL_law_495 : decode cL_law 495 = .ok (.invokevirtual 58, 3) := by decide +kernel
theorem dL_law_498 : decode cL_law 498 = .ok (.aload_n 2, 1) := by decide +kernel
theorem dL_law_499 : decode cL_law 499 = .ok (.aload_n 0, 1) := by decide +kernel
theorem dL_law_500 : decode cL_law 500 = .ok (.iload_n 3, 1) := by decide +kernel
theorem dL_law_501 : decode cL_law 501 = .ok (.iconst 1, 1) := by decide +kernel
theorem dL_law_502 : decode cL_law 502 = .ok (.iadd, 1) := by decide +kernel
theorem dL_law_503 : decode cL_law 503 = .ok (.iaload, 1) := by decide +kernel
theorem dL_law_504 : decode cL_law 504 = .ok (.aload_n 0, 1) := by decide +kernel
theorem dL_law_505 : decode cL_law 505 = .ok (.iload_n 3, 1) := by decide +kernel
theorem dL_law_506 : decode cL_law 506 = .ok (.iconst 2, 1) := by decide +kernel
theorem dL_law_507 : decode cL_law 507 = .ok (.iadd, 1) := by decide +kernel
theorem dL_law_508 : decode cL_law 508 = .ok (.iaload, 1) := by decide +kernel
theorem dL_law_509 : decode cL_law 509 = .ok (.invokevirtual 61, 3) := by decide +kernel
theorem dL_law_512 : decode cL_law 512 = .ok (.if_icmp .eq 390, 3) := by decide +kernel
theorem dL_law_515 : decode cL_law 515 = .ok (.iconst 0, 1) := by decide +kernel
theorem dL_law_516 : decode cL_law 516 = .ok (.ireturn, 1) := by decide +kernel
theorem dL_law_517 : decode cL_law 517 = .ok (.aload_n 1, 1) := by decide +kernel
theorem dL_law_518 : decode cL_law 518 = .ok (.aload_n 0, 1) := by decide +kernel
theorem dL_law_519 : decode cL_law 519 = .ok (.iload_n 3, 1) := by decide +kernel
theorem dL_law_520 : decode cL_law 520 = .ok (.iconst 1, 1) := by decide +kernel
theorem dL_law_521 : decode cL_law 521 = .ok (.iadd, 1) := by decide +kernel
theorem dL_law_522 : decode cL_law 522 = .ok (.iaload, 1) := by decide +kernel
theorem dL_law_523 : decode cL_law 523 = .ok (.aload_n 0, 1) := by decide +kernel
theorem dL_law_524 : decode cL_law 524 = .ok (.iload_n 3, 1) := by decide +kernel
theorem dL_law_525 : decode cL_law 525 = .ok (.iconst 2, 1) := by decide +kernel
theorem dL_law_526 : decode cL_law 526 = .ok (.iadd, 1) := by decide +kernel
theorem dL_law_527 : decode cL_law 527 = .ok (.iaload, 1) := by decide +kernel
theorem dL_law_528 : decode cL_law 528 = .ok (.invokevirtual 62, 3) := by decide +kernel
theorem dL_law_531 : decode cL_law 531 = .ok (.aload_n 2, 1) := by decide +kernel
theorem dL_law_532 : decode cL_law 532 = .ok (.aload_n 0, 1) := by decide +kernel
theorem dL_law_533 : decode cL_law 533 = .ok (.iload_n 3, 1) := by decide +kernel
theorem dL_law_534 : decode cL_law 534 = .ok (.iconst 1, 1) := by decide +kernel
theorem dL_law_535 : decode cL_law 535 = .ok (.iadd, 1) := by decide +kernel
theorem dL_law_536 : decode cL_law 536 = .ok (.iaload, 1) := by decide +kernel
theorem dL_law_537 : decode cL_law 537 = .ok (.aload_n 0, 1) := by decide +kernel
theorem dL_law_538 : decode cL_law 538 = .ok (.iload_n 3, 1) := by decide +kernel
theorem dL_law_539 : decode cL_law 539 = .ok (.iconst 2, 1) := by decide +kernel
theorem dL_law_540 : decode cL_law 540 = .ok (.iadd, 1) := by decide +kernel
theorem dL_law_541 : decode cL_law 541 = .ok (.iaload, 1) := by decide +kernel
theorem dL_law_542 : decode cL_law 542 = .ok (.invokevirtual 65, 3) := by decide +kernel
theorem dL_law_545 : decode cL_law 545 = .ok (.if_icmp .eq 357, 3) := by decide +kernel
theorem dL_law_548 : decode cL_law 548 = .ok (.iconst 0, 1) := by decide +kernel
theorem dL_law_549 : decode cL_law 549 = .ok (.ireturn, 1) := by decide +kernel
theorem dL_law_550 : decode cL_law 550 = .ok (.aload_n 1, 1) := by decide +kernel
theorem dL_law_551 : decode cL_law 551 = .ok (.aload_n 0, 1) := by decide +kernel
theorem dL_law_552 : decode cL_law 552 = .ok (.iload_n 3, 1) := by decide +kernel
theorem dL_law_553 : decode cL_law 553 = .ok (.iconst 1, 1) := by decide +kernel
theorem dL_law_554 : decode cL_law 554 = .ok (.iadd, 1) := by decide +kernel
theorem dL_law_555 : decode cL_law 555 = .ok (.iaload, 1) := by decide +kernel
theorem dL_law_556 : decode cL_law 556 = .ok (.invokevirtual 66, 3) := by decide +kernel
theorem dL_law_559 : decode cL_law 559 = .ok (.aload_n 2, 1) := by decide +kernel
theorem dL_law_560 : decode cL_law 560 = .ok (.aload_n 0, 1) := by decide +kernel
theorem dL_law_561 : decode cL_law 561 = .ok (.iload_n 3, 1) := by decide +kernel
theorem dL_law_562 : decode cL_law 562 = .ok (.iconst 1, 1) := by decide +kernel
theorem dL_law_563 : decode cL_law 563 = .ok (.iadd, 1) := by decide +kernel
theorem dL_law_564 : decode cL_law 564 = .ok (.iaload, 1) := by decide +kernel
theorem dL_law_565 : decode cL_law 565 = .ok (.invokevirtual 69, 3) := by decide +kernel
theorem dL_law_568 : decode cL_law 568 = .ok (.if_icmp .eq 334, 3) := by decide +kernel
theorem dL_law_571 : decode cL_law 571 = .ok (.iconst 0, 1) := by decide +kernel
theorem dL_law_572 : decode cL_law 572 = .ok (.ireturn, 1) := by decide +kernel
theorem dL_law_573 : decode cL_law 573 = .ok (.aload_n 1, 1) := by decide +kernel
theorem dL_law_574 : decode cL_law 574 = .ok (.aload_n 0, 1) := by decide +kernel
theorem dL_law_575 : decode cL_law 575 = .ok (.iload_n 3, 1) := by decide +kernel
theorem dL_law_576 : decode cL_law 576 = .ok (.iconst 1, 1) := by decide +kernel
theorem dL_law_577 : decode cL_law 577 = .ok (.iadd, 1) := by decide +kernel
theorem dL_law_578 : decode cL_law 578 = .ok (.iaload, 1) := by decide +kernel
theorem dL_law_579 : decode cL_law 579 = .ok (.aload_n 0, 1) := by decide +kernel
theorem dL_law_580 : decode cL_law 580 = .ok (.iload_n 3, 1) := by decide +kernel
theorem dL_law_581 : decode cL_law 581 = .ok (.iconst 2, 1) := by decide +kernel
theorem dL_law_582 : decode cL_law 582 = .ok (.iadd, 1) := by decide +kernel
theorem dL_law_583 : decode cL_law 583 = .ok (.iaload, 1) := by decide +kernel
theorem dL_law_584 : decode cL_law 584 = .ok (.invokevirtual 70, 3) := by decide +kernel
theorem dL_law_587 : decode cL_law 587 = .ok (.aload_n 2, 1) := by decide +kernel
theorem dL_law_588 : decode cL_law 588 = .ok (.aload_n 0, 1) := by decide +kernel
theorem dL_law_589 : decode cL_law 589 = .ok (.iload_n 3, 1) := by decide +kernel
theorem dL_law_590 : decode cL_law 590 = .ok (.iconst 1, 1) := by decide +kernel
theorem dL_law_591 : decode cL_law 591 = .ok (.iadd, 1) := by decide +kernel
theorem dL_law_592 : decode cL_law 592 = .ok (.iaload, 1) := by decide +kernel
theorem dL_law_593 : decode cL_law 593 = .ok (.aload_n 0, 1) := by decide +kernel
theorem dL_law_594 : decode cL_law 594 = .ok (.iload_n 3, 1) := by decide +kernel
theorem dL_law_595 : decode cL_law 595 = .ok (.iconst 2, 1) := by decide +kernel
theorem dL_law_596 : decode cL_law 596 = .ok (.iadd, 1) := by decide +kernel
theorem dL_law_597 : decode cL_law 597 = .ok (.iaload, 1) := by decide +kernel
theorem dL_law_598 : decode cL_law 598 = .ok (.invokevirtual 73, 3) := by decide +kernel
theorem dL_law_601 : decode cL_law 601 = .ok (.if_icmp .eq 301, 3) := by decide +kernel
theorem dL_law_604 : decode cL_law 604 = .ok (.iconst 0, 1) := by decide +kernel
theorem dL_law_605 : decode cL_law 605 = .ok (.ireturn, 1) := by decide +kernel
theorem dL_law_606 : decode cL_law 606 = .ok (.aload_n 1, 1) := by decide +kernel
theorem dL_law_607 : decode cL_law 607 = .ok (.aload_n 0, 1) := by decide +kernel
theorem dL_law_608 : decode cL_law 608 = .ok (.iload_n 3, 1) := by decide +kernel
theorem dL_law_609 : decode cL_law 609 = .ok (.iconst 1, 1) := by decide +kernel
theorem dL_law_610 : decode cL_law 610 = .ok (.iadd, 1) := by decide +kernel
theorem dL_law_611 : decode cL_law 611 = .ok (.iaload, 1) := by decide +kernel
theorem dL_law_612 : decode cL_law 612 = .ok (.aload_n 0, 1) := by decide +kernel
theorem dL_law_613 : decode cL_law 613 = .ok (.iload_n 3, 1) := by decide +kernel
theorem dL_law_614 : decode cL_law 614 = .ok (.iconst 2, 1) := by decide +kernel
theorem dL_law_615 : decode cL_law 615 = .ok (.iadd, 1) := by decide +kernel
theorem dL_law_616 : decode cL_law 616 = .ok (.iaload, 1) := by decide +kernel
theorem dL_law_617 : decode cL_law 617 = .ok (.invokevirtual 74, 3) := by decide +kernel
theorem dL_law_620 : decode cL_law 620 = .ok (.aload_n 2, 1) := by decide +kernel
theorem dL_law_621 : decode cL_law 621 = .ok (.aload_n 0, 1) := by decide +kernel
theorem dL_law_622 : decode cL_law 622 = .ok (.iload_n 3, 1) := by decide +kernel
theorem dL_law_623 : decode cL_law 623 = .ok (.iconst 1, 1) := by decide +kernel
theorem dL_law_624 : decode cL_law 624 = .ok (.iadd, 1) := by decide +kernel
theorem dL_law_625 : decode cL_law 625 = .ok (.iaload, 1) := by decide +kernel
theorem dL_law_626 : decode cL_law 626 = .ok (.aload_n 0, 1) := by decide +kernel
theorem dL_law_627 : decode cL_law 627 = .ok (.iload_n 3, 1) := by decide +kernel
theorem dL_law_628 : decode cL_law 628 = .ok (.iconst 2, 1) := by decide +kernel
theorem dL_law_629 : decode cL_law 629 = .ok (.iadd, 1) := by decide +kernel
theorem dL_law_630 : decode cL_law 630 = .ok (.iaload, 1) := by decide +kernel
theorem dL_law_631 : decode cL_law 631 = .ok (.invokevirtual 77, 3) := by decide +kernel
theorem dL_law_634 : decode cL_law 634 = .ok (.if_icmp .eq 268, 3) := by decide +kernel
theorem dL_law_637 : decode cL_law 637 = .ok (.iconst 0, 1) := by decide +kernel
theorem dL_law_638 : decode cL_law 638 = .ok (.ireturn, 1) := by decide +kernel
theorem dL_law_639 : decode cL_law 639 = .ok (.aload_n 1, 1) := by decide +kernel
theorem dL_law_640 : decode cL_law 640 = .ok (.aload_n 0, 1) := by decide +kernel
theorem dL_law_641 : decode cL_law 641 = .ok (.iload_n 3, 1) := by decide +kernel
theorem dL_law_642 : decode cL_law 642 = .ok (.iconst 1, 1) := by decide +kernel
theorem dL_law_643 : decode cL_law 643 = .ok (.iadd, 1) := by decide +kernel
theorem dL_law_644 : decode cL_law 644 = .ok (.iaload, 1) := by decide +kernel
theorem dL_law_645 : decode cL_law 645 = .ok (.aload_n 0, 1) := by decide +kernel
theorem dL_law_646 : decode cL_law 646 = .ok (.iload_n 3, 1) := by decide +kernel
theorem dL_law_647 : decode cL_law 647 = .ok (.iconst 2, 1) := by decide +kernel
theorem dL_law_648 : decode cL_law 648 = .ok (.iadd, 1) := by decide +kernel
theorem dL_law_649 : decode cL_law 649 = .ok (.iaload, 1) := by decide +kernel
theorem dL_law_650 : decode cL_law 650 = .ok (.invokevirtual 78, 3) := by decide +kernel
theorem dL_law_653 : decode cL_law 653 = .ok (.aload_n 2, 1) := by decide +kernel
theorem dL_law_654 : decode cL_law 654 = .ok (.aload_n 0, 1) := by decide +kernel
theorem dL_law_655 : decode cL_law 655 = .ok (.iload_n 3, 1) := by decide +kernel
theorem dL_law_656 : decode cL_law 656 = .ok (.iconst 1, 1) := by decide +kernel
theorem dL_law_657 : decode cL_law 657 = .ok (.iadd, 1) := by decide +kernel
theorem dL_law_658 : decode cL_law 658 = .ok (.iaload, 1) := by decide +kernel
theorem dL_law_659 : decode cL_law 659 = .ok (.aload_n 0, 1) := by decide +kernel
theorem dL_law_660 : decode cL_law 660 = .ok (.iload_n 3, 1) := by decide +kernel
theorem dL_law_661 : decode cL_law 661 = .ok (.iconst 2, 1) := by decide +kernel
theorem dL_law_662 : decode cL_law 662 = .ok (.iadd, 1) := by decide +kernel
theorem dL_law_663 : decode cL_law 663 = .ok (.iaload, 1) := by decide +kernel
theorem dL_law_664 : decode cL_law 664 = .ok (.invokevirtual 81, 3) := by decide +kernel
theorem dL_law_667 : decode cL_law 667 = .ok (.if_icmp .eq 235, 3) := by decide +kernel
theorem dL_law_670 : decode cL_law 670 = .ok (.iconst 0, 1) := by decide +kernel
theorem dL_law_671 : decode cL_law 671 = .ok (.ireturn, 1) := by decide +kernel
theorem dL_law_672 : decode cL_law 672 = .ok (.aload_n 1, 1) := by decide +kernel
theorem dL_law_673 : decode cL_law 673 = .ok (.aload_n 0, 1) := by decide +kernel
theorem dL_law_674 : decode cL_law 674 = .ok (.iload_n 3, 1) := by decide +kernel
theorem dL_law_675 : decode cL_law 675 = .ok (.iconst 1, 1) := by decide +kernel
theorem dL_law_676 : decode cL_law 676 = .ok (.iadd, 1) := by decide +kernel
theorem dL_law_677 : decode cL_law 677 = .ok (.iaload, 1) := by decide +kernel
theorem dL_law_678 : decode cL_law 678 = .ok (.aload_n 0, 1) := by decide +kernel
theorem dL_law_679 : decode cL_law 679 = .ok (.iload_n 3, 1) := by decide +kernel
theorem dL_law_680 : decode cL_law 680 = .ok (.iconst 2, 1) := by decide +kernel
theorem dL_law_681 : decode cL_law 681 = .ok (.iadd, 1) := by decide +kernel
theorem dL_law_682 : decode cL_law 682 = .ok (.iaload, 1) := by decide +kernel
theorem dL_law_683 : decode cL_law 683 = .ok (.aload_n 0, 1) := by decide +kernel
theorem dL_law_684 : decode cL_law 684 = .ok (.iload_n 3, 1) := by decide +kernel
theorem dL_law_685 : decode cL_law 685 = .ok (.iconst 3, 1) := by decide +kernel
theorem dL_law_686 : decode cL_law 686 = .ok (.iadd, 1) := by decide +kernel
theorem dL_law_687 : decode cL_law 687 = .ok (.iaload, 1) := by decide +kernel
theorem dL_law_688 : decode cL_law 688 = .ok (.invokevirtual 82, 3) := by decide +kernel
theorem dL_law_691 : decode cL_law 691 = .ok (.aload_n 2, 1) := by decide +kernel
theorem dL_law_692 : decode cL_law 692 = .ok (.aload_n 0, 1) := by decide +kernel
theorem dL_law_693 : decode cL_law 693 = .ok (.iload_n 3, 1) := by decide +kernel
theorem dL_law_694 : decode cL_law 694 = .ok (.iconst 1, 1) := by decide +kernel
theorem dL_law_695 : decode cL_law 695 = .ok (.iadd, 1) := by decide +kernel
theorem dL_law_696 : decode cL_law 696 = .ok (.iaload, 1) := by decide +kernel
theorem dL_law_697 : decode cL_law 697 = .ok (.aload_n 0, 1) := by decide +kernel
theorem dL_law_698 : decode cL_law 698 = .ok (.iload_n 3, 1) := by decide +kernel
theorem dL_law_699 : decode cL_law 699 = .ok (.iconst 2, 1) := by decide +kernel
theorem dL_law_700 : decode cL_law 700 = .ok (.iadd, 1) := by decide +kernel
theorem dL_law_701 : decode cL_law 701 = .ok (.iaload, 1) := by decide +kernel
theorem dL_law_702 : decode cL_law 702 = .ok (.aload_n 0, 1) := by decide +kernel
theorem dL_law_703 : decode cL_law 703 = .ok (.iload_n 3, 1) := by decide +kernel
theorem dL_law_704 : decode cL_law 704 = .ok (.iconst 3, 1) := by decide +kernel
theorem dL_law_705 : decode cL_law 705 = .ok (.iadd, 1) := by decide +kernel
theorem dL_law_706 : decode cL_law 706 = .ok (.iaload, 1) := by decide +kernel
theorem dL_law_707 : decode cL_law 707 = .ok (.invokevirtual 85, 3) := by decide +kernel
theorem dL_law_710 : decode cL_law 710 = .ok (.if_icmp .eq 192, 3) := by decide +kernel
theorem dL_law_713 : decode cL_law 713 = .ok (.iconst 0, 1) := by decide +kernel
theorem dL_law_714 : decode cL_law 714 = .ok (.ireturn, 1) := by decide +kernel
theorem dL_law_715 : decode cL_law 715 = .ok (.aload_n 1, 1) := by decide +kernel
theorem dL_law_716 : decode cL_law 716 = .ok (.aload_n 0, 1) := by decide +kernel
theorem dL_law_717 : decode cL_law 717 = .ok (.iload_n 3, 1) := by decide +kernel
theorem dL_law_718 : decode cL_law 718 = .ok (.iconst 1, 1) := by decide +kernel
theorem dL_law_719 : decode cL_law 719 = .ok (.iadd, 1) := by decide +kernel
theorem dL_law_720 : decode cL_law 720 = .ok (.iaload, 1) := by decide +kernel
theorem dL_law_721 : decode cL_law 721 = .ok (.aload_n 0, 1) := by decide +kernel
theorem dL_law_722 : decode cL_law 722 = .ok (.iload_n 3, 1) := by decide +kernel
theorem dL_law_723 : decode cL_law 723 = .ok (.iconst 2, 1) := by decide +kernel
theorem dL_law_724 : decode cL_law 724 = .ok (.iadd, 1) := by decide +kernel
theorem dL_law_725 : decode cL_law 725 = .ok (.iaload, 1) := by decide +kernel
theorem dL_law_726 : decode cL_law 726 = .ok (.invokevirtual 86, 3) := by decide +kernel
theorem dL_law_729 : decode cL_law 729 = .ok (.aload_n 2, 1) := by decide +kernel
theorem dL_law_730 : decode cL_law 730 = .ok (.aload_n 0, 1) := by decide +kernel
theorem dL_law_731 : decode cL_law 731 = .ok (.iload_n 3, 1) := by decide +kernel
theorem dL_law_732 : decode cL_law 732 = .ok (.iconst 1, 1) := by decide +kernel
theorem dL_law_733 : decode cL_law 733 = .ok (.iadd, 1) := by decide +kernel
theorem dL_law_734 : decode cL_law 734 = .ok (.iaload, 1) := by decide +kernel
theorem dL_law_735 : decode cL_law 735 = .ok (.aload_n 0, 1) := by decide +kernel
theorem dL_law_736 : decode cL_law 736 = .ok (.iload_n 3, 1) := by decide +kernel
theorem dL_law_737 : decode cL_law 737 = .ok (.iconst 2, 1) := by decide +kernel
theorem dL_law_738 : decode cL_law 738 = .ok (.iadd, 1) := by decide +kernel
theorem dL_law_739 : decode cL_law 739 = .ok (.iaload, 1) := by decide +kernel
theorem dL_law_740 : decode cL_law 740 = .ok (.invokevirtual 89, 3) := by decide +kernel
theorem dL_law_743 : decode cL_law 743 = .ok (.if_icmp .eq 159, 3) := by decide +kernel
theorem dL_law_746 : decode cL_law 746 = .ok (.iconst 0, 1) := by decide +kernel
theorem dL_law_747 : decode cL_law 747 = .ok (.ireturn, 1) := by decide +kernel
theorem dL_law_748 : decode cL_law 748 = .ok (.aload_n 1, 1) := by decide +kernel
theorem dL_law_749 : decode cL_law 749 = .ok (.aload_n 0, 1) := by decide +kernel
theorem dL_law_750 : decode cL_law 750 = .ok (.iload_n 3, 1) := by decide +kernel
theorem dL_law_751 : decode cL_law 751 = .ok (.iconst 1, 1) := by decide +kernel
theorem dL_law_752 : decode cL_law 752 = .ok (.iadd, 1) := by decide +kernel
theorem dL_law_753 : decode cL_law 753 = .ok (.iaload, 1) := by decide +kernel
theorem dL_law_754 : decode cL_law 754 = .ok (.invokevirtual 90, 3) := by decide +kernel
theorem dL_law_757 : decode cL_law 757 = .ok (.aload_n 2, 1) := by decide +kernel
theorem dL_law_758 : decode cL_law 758 = .ok (.aload_n 0, 1) := by decide +kernel
theorem dL_law_759 : decode cL_law 759 = .ok (.iload_n 3, 1) := by decide +kernel
theorem dL_law_760 : decode cL_law 760 = .ok (.iconst 1, 1) := by decide +kernel
theorem dL_law_761 : decode cL_law 761 = .ok (.iadd, 1) := by decide +kernel
theorem dL_law_762 : decode cL_law 762 = .ok (.iaload, 1) := by decide +kernel
theorem dL_law_763 : decode cL_law 763 = .ok (.invokevirtual 93, 3) := by decide +kernel
theorem dL_law_766 : decode cL_law 766 = .ok (.if_icmp .eq 136, 3) := by decide +kernel
theorem dL_law_769 : decode cL_law 769 = .ok (.iconst 0, 1) := by decide +kernel
theorem dL_law_770 : decode cL_law 770 = .ok (.ireturn, 1) := by decide +kernel
theorem dL_law_771 : decode cL_law 771 = .ok (.aload_n 1, 1) := by decide +kernel
theorem dL_law_772 : decode cL_law 772 = .ok (.aload_n 0, 1) := by decide +kernel
theorem dL_law_773 : decode cL_law 773 = .ok (.iload_n 3, 1) := by decide +kernel
theorem dL_law_774 : decode cL_law 774 = .ok (.iconst 1, 1) := by decide +kernel
theorem dL_law_775 : decode cL_law 775 = .ok (.iadd, 1) := by decide +kernel
theorem dL_law_776 : decode cL_law 776 = .ok (.iaload, 1) := by decide +kernel
theorem dL_law_777 : decode cL_law 777 = .ok (.invokevirtual 94, 3) := by decide +kernel
theorem dL_law_780 : decode cL_law 780 = .ok (.aload_n 2, 1) := by decide +kernel
theorem dL_law_781 : decode cL_law 781 = .ok (.aload_n 0, 1) := by decide +kernel
theorem dL_law_782 : decode cL_law 782 = .ok (.iload_n 3, 1) := by decide +kernel
theorem dL_law_783 : decode cL_law 783 = .ok (.iconst 1, 1) := by decide +kernel
theorem dL_law_784 : decode cL_law 784 = .ok (.iadd, 1) := by decide +kernel
theorem dL_law_785 : decode cL_law 785 = .ok (.iaload, 1) := by decide +kernel
theorem dL_law_786 : decode cL_law 786 = .ok (.invokevirtual 97, 3) := by decide +kernel
theorem dL_law_789 : decode cL_law 789 = .ok (.if_icmp .eq 113, 3) := by decide +kernel
theorem dL_law_792 : decode cL_law 792 = .ok (.iconst 0, 1) := by decide +kernel
theorem dL_law_793 : decode cL_law 793 = .ok (.ireturn, 1) := by decide +kernel
theorem dL_law_794 : decode cL_law 794 = .ok (.aload_n 1, 1) := by decide +kernel
theorem dL_law_795 : decode cL_law 795 = .ok (.aload_n 0, 1) := by decide +kernel
theorem dL_law_796 : decode cL_law 796 = .ok (.iload_n 3, 1) := by decide +kernel
theorem dL_law_797 : decode cL_law 797 = .ok (.iconst 1, 1) := by decide +kernel
theorem dL_law_798 : decode cL_law 798 = .ok (.iadd, 1) := by decide +kernel
theorem dL_law_799 : decode cL_law 799 = .ok (.iaload, 1) := by decide +kernel
theorem dL_law_800 : decode cL_law 800 = .ok (.invokevirtual 98, 3) := by decide +kernel
theorem dL_law_803 : decode cL_law 803 = .ok (.aload_n 2, 1) := by decide +kernel
theorem dL_law_804 : decode cL_law 804 = .ok (.aload_n 0, 1) := by decide +kernel
theorem dL_law_805 : decode cL_law 805 = .ok (.iload_n 3, 1) := by decide +kernel
theorem dL_law_806 : decode cL_law 806 = .ok (.iconst 1, 1) := by decide +kernel
theorem dL_law_807 : decode cL_law 807 = .ok (.iadd, 1) := by decide +kernel
theorem dL_law_808 : decode cL_law 808 = .ok (.iaload, 1) := by decide +kernel
theorem dL_law_809 : decode cL_law 809 = .ok (.invokevirtual 101, 3) := by decide +kernel
theorem dL_law_812 : decode cL_law 812 = .ok (.if_icmp .eq 90, 3) := by decide +kernel
theorem dL_law_815 : decode cL_law 815 = .ok (.iconst 0, 1) := by decide +kernel
theorem dL_law_816 : decode cL_law 816 = .ok (.ireturn, 1) := by decide +kernel
theorem dL_law_817 : decode cL_law 817 = .ok (.aload_n 1, 1) := by decide +kernel
theorem dL_law_818 : decode cL_law 818 = .ok (.invokevirtual 102, 3) := by decide +kernel
theorem dL_law_821 : decode cL_law 821 = .ok (.aload_n 2, 1) := by decide +kernel
theorem dL_law_822 : decode cL_law 822 = .ok (.invokevirtual 105, 3) := by decide +kernel
theorem dL_law_825 : decode cL_law 825 = .ok (.if_icmp .eq 77, 3) := by decide +kernel
theorem dL_law_828 : decode cL_law 828 = .ok (.iconst 0, 1) := by decide +kernel
theorem dL_law_829 : decode cL_law 829 = .ok (.ireturn, 1) := by decide +kernel
theorem dL_law_830 : decode cL_law 830 = .ok (.aload_n 1, 1) := by decide +kernel
theorem dL_law_831 : decode cL_law 831 = .ok (.aload_n 0, 1) := by decide +kernel
theorem dL_law_832 : decode cL_law 832 = .ok (.iload_n 3, 1) := by decide +kernel
theorem dL_law_833 : decode cL_law 833 = .ok (.iconst 1, 1) := by decide +kernel
theorem dL_law_834 : decode cL_law 834 = .ok (.iadd, 1) := by decide +kernel
theorem dL_law_835 : decode cL_law 835 = .ok (.iaload, 1) := by decide +kernel
theorem dL_law_836 : decode cL_law 836 = .ok (.invokevirtual 106, 3) := by decide +kernel
theorem dL_law_839 : decode cL_law 839 = .ok (.aload_n 2, 1) := by decide +kernel
theorem dL_law_840 : decode cL_law 840 = .ok (.aload_n 0, 1) := by decide +kernel
theorem dL_law_841 : decode cL_law 841 = .ok (.iload_n 3, 1) := by decide +kernel
theorem dL_law_842 : decode cL_law 842 = .ok (.iconst 1, 1) := by decide +kernel
theorem dL_law_843 : decode cL_law 843 = .ok (.iadd, 1) := by decide +kernel
theorem dL_law_844 : decode cL_law 844 = .ok (.iaload, 1) := by decide +kernel
theorem dL_law_845 : decode cL_law 845 = .ok (.invokevirtual 109, 3) := by decide +kernel
theorem dL_law_848 : decode cL_law 848 = .ok (.if_icmp .eq 54, 3) := by decide +kernel
theorem dL_law_851 : decode cL_law 851 = .ok (.iconst 0, 1) := by decide +kernel
theorem dL_law_852 : decode cL_law 852 = .ok (.ireturn, 1) := by decide +kernel
theorem dL_law_853 : decode cL_law 853 = .ok (.aload_n 1, 1) := by decide +kernel
theorem dL_law_854 : decode cL_law 854 = .ok (.aload_n 0, 1) := by decide +kernel
theorem dL_law_855 : decode cL_law 855 = .ok (.iload_n 3, 1) := by decide +kernel
theorem dL_law_856 : decode cL_law 856 = .ok (.iconst 1, 1) := by decide +kernel
theorem dL_law_857 : decode cL_law 857 = .ok (.iadd, 1) := by decide +kernel
theorem dL_law_858 : decode cL_law 858 = .ok (.iaload, 1) := by decide +kernel
theorem dL_law_859 : decode cL_law 859 = .ok (.invokevirtual 110, 3) := by decide +kernel
theorem dL_law_862 : decode cL_law 862 = .ok (.aload_n 2, 1) := by decide +kernel
theorem dL_law_863 : decode cL_law 863 = .ok (.aload_n 0, 1) := by decide +kernel
theorem dL_law_864 : decode cL_law 864 = .ok (.iload_n 3, 1) := by decide +kernel
theorem dL_law_865 : decode cL_law 865 = .ok (.iconst 1, 1) := by decide +kernel
theorem dL_law_866 : decode cL_law 866 = .ok (.iadd, 1) := by decide +kernel
theorem dL_law_867 : decode cL_law 867 = .ok (.iaload, 1) := by decide +kernel
theorem dL_law_868 : decode cL_law 868 = .ok (.invokevirtual 113, 3) := by decide +kernel
theorem dL_law_871 : decode cL_law 871 = .ok (.if_icmp .eq 31, 3) := by decide +kernel
theorem dL_law_874 : decode cL_law 874 = .ok (.iconst 0, 1) := by decide +kernel
theorem dL_law_875 : decode cL_law 875 = .ok (.ireturn, 1) := by decide +kernel
theorem dL_law_876 : decode cL_law 876 = .ok (.aload_n 1, 1) := by decide +kernel
theorem dL_law_877 : decode cL_law 877 = .ok (.invokevirtual 114, 3) := by decide +kernel
theorem dL_law_880 : decode cL_law 880 = .ok (.aload_n 2, 1) := by decide +kernel
theorem dL_law_881 : decode cL_law 881 = .ok (.invokevirtual 117, 3) := by decide +kernel
theorem dL_law_884 : decode cL_law 884 = .ok (.if_icmp .eq 18, 3) := by decide +kernel
theorem dL_law_887 : decode cL_law 887 = .ok (.iconst 0, 1) := by decide +kernel
theorem dL_law_888 : decode cL_law 888 = .ok (.ireturn, 1) := by decide +kernel
theorem dL_law_889 : decode cL_law 889 = .ok (.aload_n 1, 1) := by decide +kernel
theorem dL_law_890 : decode cL_law 890 = .ok (.invokevirtual 118, 3) := by decide +kernel
theorem dL_law_893 : decode cL_law 893 = .ok (.aload_n 2, 1) := by decide +kernel
theorem dL_law_894 : decode cL_law 894 = .ok (.invokevirtual 121, 3) := by decide +kernel
theorem dL_law_897 : decode cL_law 897 = .ok (.if_icmp .eq 5, 3) := by decide +kernel
theorem dL_law_900 : decode cL_law 900 = .ok (.iconst 0, 1) := by decide +kernel
theorem dL_law_901 : decode cL_law 901 = .ok (.ireturn, 1) := by decide +kernel
theorem dL_law_902 : decode cL_law 902 = .ok (.iinc 3 7, 3) := by decide +kernel
theorem dL_law_905 : decode cL_law 905 = .ok (.goto (-887), 3) := by decide +kernel
theorem dL_law_908 : decode cL_law 908 = .ok (.iconst 1, 1) := by decide +kernel
theorem dL_law_909 : decode cL_law 909 = .ok (.ireturn, 1) := by decide +kernel
