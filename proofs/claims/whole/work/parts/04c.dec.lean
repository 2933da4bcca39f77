theorem dX11_init_0 : decode (mc mX11_init) 0 = .ok (.aload_n 0, 1) := by decide +kernel
theorem dX11_init_1 : decode (mc mX11_init) 1 = .ok (.invokespecial 3, 3) := by decide +kernel
theorem dX11_init_4 : decode (mc mX11_init) 4 = .ok (.aload_n 0, 1) := by decide +kernel
theorem dX11_init_5 : decode (mc mX11_init) 5 = .ok (.bipush 49, 2) := by decide +kernel
theorem dX11_init_7 : decode (mc mX11_init) 7 = .ok (.newarray .int, 2) := by decide +kernel
theorem dX11_init_9 : decode (mc mX11_init) 9 = .ok (.putfield 9, 3) := by decide +kernel
theorem dX11_init_12 : decode (mc mX11_init) 12 = .ok (.aload_n 0, 1) := by decide +kernel
theorem dX11_init_13 : decode (mc mX11_init) 13 = .ok (.bipush 49, 2) := by decide +kernel
theorem dX11_init_15 : decode (mc mX11_init) 15 = .ok (.newarray .int, 2) := by decide +kernel
theorem dX11_init_17 : decode (mc mX11_init) 17 = .ok (.putfield 13, 3) := by decide +kernel
theorem dX11_init_20 : decode (mc mX11_init) 20 = .ok (.aload_n 0, 1) := by decide +kernel
theorem dX11_init_21 : decode (mc mX11_init) 21 = .ok (.bipush 49, 2) := by decide +kernel
theorem dX11_init_23 : decode (mc mX11_init) 23 = .ok (.newarray .int, 2) := by decide +kernel
theorem dX11_init_25 : decode (mc mX11_init) 25 = .ok (.putfield 16, 3) := by decide +kernel
theorem dX11_init_28 : decode (mc mX11_init) 28 = .ok (.aload_n 0, 1) := by decide +kernel
theorem dX11_init_29 : decode (mc mX11_init) 29 = .ok (.bipush 7, 2) := by decide +kernel
theorem dX11_init_31 : decode (mc mX11_init) 31 = .ok (.newarray .int, 2) := by decide +kernel
theorem dX11_init_33 : decode (mc mX11_init) 33 = .ok (.putfield 19, 3) := by decide +kernel
theorem dX11_init_36 : decode (mc mX11_init) 36 = .ok (.aload_n 0, 1) := by decide +kernel
theorem dX11_init_37 : decode (mc mX11_init) 37 = .ok (.iconst 3, 1) := by decide +kernel
theorem dX11_init_38 : decode (mc mX11_init) 38 = .ok (.newarray .int, 2) := by decide +kernel
theorem dX11_init_40 : decode (mc mX11_init) 40 = .ok (.putfield 22, 3) := by decide +kernel
theorem dX11_init_43 : decode (mc mX11_init) 43 = .ok (.aload_n 0, 1) := by decide +kernel
theorem dX11_init_44 : decode (mc mX11_init) 44 = .ok (.sipush 320, 3) := by decide +kernel
theorem dX11_init_47 : decode (mc mX11_init) 47 = .ok (.newarray .int, 2) := by decide +kernel
theorem dX11_init_49 : decode (mc mX11_init) 49 = .ok (.putfield 25, 3) := by decide +kernel
theorem dX11_init_52 : decode (mc mX11_init) 52 = .ok (.aload_n 0, 1) := by decide +kernel
theorem dX11_init_53 : decode (mc mX11_init) 53 = .ok (.bipush 96, 2) := by decide +kernel
theorem dX11_init_55 : decode (mc mX11_init) 55 = .ok (.newarray .boolean, 2) := by decide +kernel
theorem dX11_init_57 : decode (mc mX11_init) 57 = .ok (.putfield 28, 3) := by decide +kernel
theorem dX11_init_60 : decode (mc mX11_init) 60 = .ok (.aload_n 0, 1) := by decide +kernel
theorem dX11_init_61 : decode (mc mX11_init) 61 = .ok (.bipush 96, 2) := by decide +kernel
theorem dX11_init_63 : decode (mc mX11_init) 63 = .ok (.newarray .int, 2) := by decide +kernel
theorem dX11_init_65 : decode (mc mX11_init) 65 = .ok (.putfield 32, 3) := by decide +kernel
theorem dX11_init_68 : decode (mc mX11_init) 68 = .ok (.aload_n 0, 1) := by decide +kernel
theorem dX11_init_69 : decode (mc mX11_init) 69 = .ok (.bipush 96, 2) := by decide +kernel
theorem dX11_init_71 : decode (mc mX11_init) 71 = .ok (.newarray .int, 2) := by decide +kernel
theorem dX11_init_73 : decode (mc mX11_init) 73 = .ok (.putfield 35, 3) := by decide +kernel
theorem dX11_init_76 : decode (mc mX11_init) 76 = .ok (.aload_n 0, 1) := by decide +kernel
theorem dX11_init_77 : decode (mc mX11_init) 77 = .ok (.iconst 3, 1) := by decide +kernel
theorem dX11_init_78 : decode (mc mX11_init) 78 = .ok (.newarray .int, 2) := by decide +kernel
theorem dX11_init_80 : decode (mc mX11_init) 80 = .ok (.putfield 38, 3) := by decide +kernel
theorem dX11_init_83 : decode (mc mX11_init) 83 = .ok (.aload_n 0, 1) := by decide +kernel
theorem dX11_init_84 : decode (mc mX11_init) 84 = .ok (.iconst 3, 1) := by decide +kernel
theorem dX11_init_85 : decode (mc mX11_init) 85 = .ok (.newarray .int, 2) := by decide +kernel
theorem dX11_init_87 : decode (mc mX11_init) 87 = .ok (.putfield 41, 3) := by decide +kernel
theorem dX11_init_90 : decode (mc mX11_init) 90 = .ok (.aload_n 0, 1) := by decide +kernel
theorem dX11_init_91 : decode (mc mX11_init) 91 = .ok (.iconst 3, 1) := by decide +kernel
theorem dX11_init_92 : decode (mc mX11_init) 92 = .ok (.newarray .int, 2) := by decide +kernel
theorem dX11_init_94 : decode (mc mX11_init) 94 = .ok (.putfield 44, 3) := by decide +kernel
theorem dX11_init_97 : decode (mc mX11_init) 97 = .ok (.aload_n 0, 1) := by decide +kernel
theorem dX11_init_98 : decode (mc mX11_init) 98 = .ok (.iconst 5, 1) := by decide +kernel
theorem dX11_init_99 : decode (mc mX11_init) 99 = .ok (.newarray .int, 2) := by decide +kernel
theorem dX11_init_101 : decode (mc mX11_init) 101 = .ok (.putfield 47, 3) := by decide +kernel
theorem dX11_init_104 : decode (mc mX11_init) 104 = .ok (.aload_n 0, 1) := by decide +kernel
theorem dX11_init_105 : decode (mc mX11_init) 105 = .ok (.iconst 3, 1) := by decide +kernel
theorem dX11_init_106 : decode (mc mX11_init) 106 = .ok (.newarray .int, 2) := by decide +kernel
theorem dX11_init_108 : decode (mc mX11_init) 108 = .ok (.putfield 50, 3) := by decide +kernel
theorem dX11_init_111 : decode (mc mX11_init) 111 = .ok (.aload_n 0, 1) := by decide +kernel
theorem dX11_init_112 : decode (mc mX11_init) 112 = .ok (.iconst 3, 1) := by decide +kernel
theorem dX11_init_113 : decode (mc mX11_init) 113 = .ok (.newarray .int, 2) := by decide +kernel
theorem dX11_init_115 : decode (mc mX11_init) 115 = .ok (.putfield 53, 3) := by decide +kernel
theorem dX11_init_118 : decode (mc mX11_init) 118 = .ok (.aload_n 0, 1) := by decide +kernel
theorem dX11_init_119 : decode (mc mX11_init) 119 = .ok (.iconst 4, 1) := by decide +kernel
theorem dX11_init_120 : decode (mc mX11_init) 120 = .ok (.newarray .int, 2) := by decide +kernel
theorem dX11_init_122 : decode (mc mX11_init) 122 = .ok (.dup, 1) := by decide +kernel
theorem dX11_init_123 : decode (mc mX11_init) 123 = .ok (.iconst 0, 1) := by decide +kernel
theorem dX11_init_124 : decode (mc mX11_init) 124 = .ok (.bipush (-9), 2) := by decide +kernel
theorem dX11_init_126 : decode (mc mX11_init) 126 = .ok (.iastore, 1) := by decide +kernel
theorem dX11_init_127 : decode (mc mX11_init) 127 = .ok (.dup, 1) := by decide +kernel
theorem dX11_init_128 : decode (mc mX11_init) 128 = .ok (.iconst 1, 1) := by decide +kernel
theorem dX11_init_129 : decode (mc mX11_init) 129 = .ok (.bipush (-9), 2) := by decide +kernel
theorem dX11_init_131 : decode (mc mX11_init) 131 = .ok (.iastore, 1) := by decide +kernel
theorem dX11_init_132 : decode (mc mX11_init) 132 = .ok (.dup, 1) := by decide +kernel
theorem dX11_init_133 : decode (mc mX11_init) 133 = .ok (.iconst 2, 1) := by decide +kernel
theorem dX11_init_134 : decode (mc mX11_init) 134 = .ok (.bipush (-9), 2) := by decide +kernel
theorem dX11_init_136 : decode (mc mX11_init) 136 = .ok (.iastore, 1) := by decide +kernel
theorem dX11_init_137 : decode (mc mX11_init) 137 = .ok (.dup, 1) := by decide +kernel
theorem dX11_init_138 : decode (mc mX11_init) 138 = .ok (.iconst 3, 1) := by decide +kernel
theorem dX11_init_139 : decode (mc mX11_init) 139 = .ok (.bipush (-9), 2) := by decide +kernel
theorem dX11_init_141 : decode (mc mX11_init) 141 = .ok (.iastore, 1) := by decide +kernel
theorem dX11_init_142 : decode (mc mX11_init) 142 = .ok (.putfield 56, 3) := by decide +kernel
theorem dX11_init_145 : decode (mc mX11_init) 145 = .ok (.aload_n 0, 1) := by decide +kernel
theorem dX11_init_146 : decode (mc mX11_init) 146 = .ok (.bipush 80, 2) := by decide +kernel
theorem dX11_init_148 : decode (mc mX11_init) 148 = .ok (.newarray .int, 2) := by decide +kernel
theorem dX11_init_150 : decode (mc mX11_init) 150 = .ok (.putfield 59, 3) := by decide +kernel
theorem dX11_init_153 : decode (mc mX11_init) 153 = .ok (.aload_n 0, 1) := by decide +kernel
theorem dX11_init_154 : decode (mc mX11_init) 154 = .ok (.iconst 3, 1) := by decide +kernel
theorem dX11_init_155 : decode (mc mX11_init) 155 = .ok (.newarray .int, 2) := by decide +kernel
theorem dX11_init_157 : decode (mc mX11_init) 157 = .ok (.dup, 1) := by decide +kernel
theorem dX11_init_158 : decode (mc mX11_init) 158 = .ok (.iconst 0, 1) := by decide +kernel
theorem dX11_init_159 : decode (mc mX11_init) 159 = .ok (.bipush (-9), 2) := by decide +kernel
theorem dX11_init_161 : decode (mc mX11_init) 161 = .ok (.iastore, 1) := by decide +kernel
theorem dX11_init_162 : decode (mc mX11_init) 162 = .ok (.dup, 1) := by decide +kernel
theorem dX11_init_163 : decode (mc mX11_init) 163 = .ok (.iconst 1, 1) := by decide +kernel
theorem dX11_init_164 : decode (mc mX11_init) 164 = .ok (.bipush (-9), 2) := by decide +kernel
theorem dX11_init_166 : decode (mc mX11_init) 166 = .ok (.iastore, 1) := by decide +kernel
theorem dX11_init_167 : decode (mc mX11_init) 167 = .ok (.dup, 1) := by decide +kernel
theorem dX11_init_168 : decode (mc mX11_init) 168 = .ok (.iconst 2, 1) := by decide +kernel
theorem dX11_init_169 : decode (mc mX11_init) 169 = .ok (.bipush (-9), 2) := by decide +kernel
theorem dX11_init_171 : decode (mc mX11_init) 171 = .ok (.iastore, 1) := by decide +kernel
theorem dX11_init_172 : decode (mc mX11_init) 172 = .ok (.putfield 62, 3) := by decide +kernel
theorem dX11_init_175 : decode (mc mX11_init) 175 = .ok (.aload_n 0, 1) := by decide +kernel
theorem dX11_init_176 : decode (mc mX11_init) 176 = .ok (.iconst 3, 1) := by decide +kernel
theorem dX11_init_177 : decode (mc mX11_init) 177 = .ok (.newarray .int, 2) := by decide +kernel
theorem dX11_init_179 : decode (mc mX11_init) 179 = .ok (.putfield 65, 3) := by decide +kernel
theorem dX11_init_182 : decode (mc mX11_init) 182 = .ok (.aload_n 0, 1) := by decide +kernel
theorem dX11_init_183 : decode (mc mX11_init) 183 = .ok (.bipush 81, 2) := by decide +kernel
theorem dX11_init_185 : decode (mc mX11_init) 185 = .ok (.newarray .int, 2) := by decide +kernel
theorem dX11_init_187 : decode (mc mX11_init) 187 = .ok (.putfield 68, 3) := by decide +kernel
theorem dX11_init_190 : decode (mc mX11_init) 190 = .ok (.aload_n 0, 1) := by decide +kernel
theorem dX11_init_191 : decode (mc mX11_init) 191 = .ok (.bipush 120, 2) := by decide +kernel
theorem dX11_init_193 : decode (mc mX11_init) 193 = .ok (.newarray .int, 2) := by decide +kernel
theorem dX11_init_195 : decode (mc mX11_init) 195 = .ok (.putfield 71, 3) := by decide +kernel
theorem dX11_init_198 : decode (mc mX11_init) 198 = .ok (.aload_n 0, 1) := by decide +kernel
theorem dX11_init_199 : decode (mc mX11_init) 199 = .ok (.iconst 4, 1) := by decide +kernel
theorem dX11_init_200 : decode (mc mX11_init) 200 = .ok (.newarray .int, 2) := by decide +kernel
theorem dX11_init_202 : decode (mc mX11_init) 202 = .ok (.putfield 74, 3) := by decide +kernel
theorem dX11_init_205 : decode (mc mX11_init) 205 = .ok (.aload_n 0, 1) := by decide +kernel
theorem dX11_init_206 : decode (mc mX11_init) 206 = .ok (.getfield 9, 3) := by decide +kernel
theorem dX11_init_209 : decode (mc mX11_init) 209 = .ok (.iconst 0, 1) := by decide +kernel
theorem dX11_init_210 : decode (mc mX11_init) 210 = .ok (.iconst 4, 1) := by decide +kernel
theorem dX11_init_211 : decode (mc mX11_init) 211 = .ok (.iastore, 1) := by decide +kernel
theorem dX11_init_212 : decode (mc mX11_init) 212 = .ok (.aload_n 0, 1) := by decide +kernel
theorem dX11_init_213 : decode (mc mX11_init) 213 = .ok (.getfield 9, 3) := by decide +kernel
theorem dX11_init_216 : decode (mc mX11_init) 216 = .ok (.iconst 2, 1) := by decide +kernel
theorem dX11_init_217 : decode (mc mX11_init) 217 = .ok (.iconst 1, 1) := by decide +kernel
theorem dX11_init_218 : decode (mc mX11_init) 218 = .ok (.iastore, 1) := by decide +kernel
theorem dX11_init_219 : decode (mc mX11_init) 219 = .ok (.return_, 1) := by decide +kernel
theorem dX11_isIn_0 : decode (mc mX11_isIn) 0 = .ok (.lload_n 0, 1) := by decide +kernel
theorem dX11_isIn_1 : decode (mc mX11_isIn) 1 = .ok (.lload_n 2, 1) := by decide +kernel
theorem dX11_isIn_2 : decode (mc mX11_isIn) 2 = .ok (.lcmp, 1) := by decide +kernel
theorem dX11_isIn_3 : decode (mc mX11_isIn) 3 = .ok (.ifCond .lt 14, 3) := by decide +kernel
theorem dX11_isIn_6 : decode (mc mX11_isIn) 6 = .ok (.lload_n 0, 1) := by decide +kernel
theorem dX11_isIn_7 : decode (mc mX11_isIn) 7 = .ok (.lload 4, 2) := by decide +kernel
theorem dX11_isIn_9 : decode (mc mX11_isIn) 9 = .ok (.lcmp, 1) := by decide +kernel
theorem dX11_isIn_10 : decode (mc mX11_isIn) 10 = .ok (.ifCond .gt 7, 3) := by decide +kernel
theorem dX11_isIn_13 : decode (mc mX11_isIn) 13 = .ok (.iconst 1, 1) := by decide +kernel
theorem dX11_isIn_14 : decode (mc mX11_isIn) 14 = .ok (.goto 4, 3) := by decide +kernel
theorem dX11_isIn_17 : decode (mc mX11_isIn) 17 = .ok (.iconst 0, 1) := by decide +kernel
theorem dX11_isIn_18 : decode (mc mX11_isIn) 18 = .ok (.ireturn, 1) := by decide +kernel
theorem dX11_no_0 : decode (mc mX11_no) 0 = .ok (.aload_n 0, 1) := by decide +kernel
theorem dX11_no_1 : decode (mc mX11_no) 1 = .ok (.getfield 19, 3) := by decide +kernel
theorem dX11_no_4 : decode (mc mX11_no) 4 = .ok (.iload_n 1, 1) := by decide +kernel
theorem dX11_no_5 : decode (mc mX11_no) 5 = .ok (.ineg, 1) := by decide +kernel
theorem dX11_no_6 : decode (mc mX11_no) 6 = .ok (.dup2, 1) := by decide +kernel
theorem dX11_no_7 : decode (mc mX11_no) 7 = .ok (.iaload, 1) := by decide +kernel
theorem dX11_no_8 : decode (mc mX11_no) 8 = .ok (.iconst 1, 1) := by decide +kernel
theorem dX11_no_9 : decode (mc mX11_no) 9 = .ok (.iadd, 1) := by decide +kernel
theorem dX11_no_10 : decode (mc mX11_no) 10 = .ok (.iastore, 1) := by decide +kernel
theorem dX11_no_11 : decode (mc mX11_no) 11 = .ok (.iload_n 1, 1) := by decide +kernel
theorem dX11_no_12 : decode (mc mX11_no) 12 = .ok (.ireturn, 1) := by decide +kernel
theorem dX11_noWide_0 : decode (mc mX11_noWide) 0 = .ok (.ldc2_w 77, 3) := by decide +kernel
theorem dX11_noWide_3 : decode (mc mX11_noWide) 3 = .ok (.aload_n 0, 1) := by decide +kernel
theorem dX11_noWide_4 : decode (mc mX11_noWide) 4 = .ok (.iload_n 1, 1) := by decide +kernel
theorem dX11_noWide_5 : decode (mc mX11_noWide) 5 = .ok (.invokevirtual 79, 3) := by decide +kernel
theorem dX11_noWide_8 : decode (mc mX11_noWide) 8 = .ok (.i2l, 1) := by decide +kernel
theorem dX11_noWide_9 : decode (mc mX11_noWide) 9 = .ok (.lsub, 1) := by decide +kernel
theorem dX11_noWide_10 : decode (mc mX11_noWide) 10 = .ok (.lreturn, 1) := by decide +kernel
theorem dX11_keeps_0 : decode (mc mX11_keeps) 0 = .ok (.aload_n 0, 1) := by decide +kernel
theorem dX11_keeps_1 : decode (mc mX11_keeps) 1 = .ok (.getfield 9, 3) := by decide +kernel
theorem dX11_keeps_4 : decode (mc mX11_keeps) 4 = .ok (.iconst 0, 1) := by decide +kernel
theorem dX11_keeps_5 : decode (mc mX11_keeps) 5 = .ok (.aload_n 0, 1) := by decide +kernel
theorem dX11_keeps_6 : decode (mc mX11_keeps) 6 = .ok (.getfield 13, 3) := by decide +kernel
theorem dX11_keeps_9 : decode (mc mX11_keeps) 9 = .ok (.iconst 0, 1) := by decide +kernel
theorem dX11_keeps_10 : decode (mc mX11_keeps) 10 = .ok (.bipush 49, 2) := by decide +kernel
theorem dX11_keeps_12 : decode (mc mX11_keeps) 12 = .ok (.invokestatic 83, 3) := by decide +kernel
theorem dX11_keeps_15 : decode (mc mX11_keeps) 15 = .ok (.return_, 1) := by decide +kernel
theorem dX11_laysBack_0 : decode (mc mX11_laysBack) 0 = .ok (.aload_n 0, 1) := by decide +kernel
theorem dX11_laysBack_1 : decode (mc mX11_laysBack) 1 = .ok (.getfield 13, 3) := by decide +kernel
theorem dX11_laysBack_4 : decode (mc mX11_laysBack) 4 = .ok (.iconst 0, 1) := by decide +kernel
theorem dX11_laysBack_5 : decode (mc mX11_laysBack) 5 = .ok (.aload_n 0, 1) := by decide +kernel
theorem dX11_laysBack_6 : decode (mc mX11_laysBack) 6 = .ok (.getfield 9, 3) := by decide +kernel
theorem dX11_laysBack_9 : decode (mc mX11_laysBack) 9 = .ok (.iconst 0, 1) := by decide +kernel
theorem dX11_laysBack_10 : decode (mc mX11_laysBack) 10 = .ok (.bipush 49, 2) := by decide +kernel
theorem dX11_laysBack_12 : decode (mc mX11_laysBack) 12 = .ok (.invokestatic 83, 3) := by decide +kernel
theorem dX11_laysBack_15 : decode (mc mX11_laysBack) 15 = .ok (.return_, 1) := by decide +kernel
theorem dX11_isHour_0 : decode (mc mX11_isHour) 0 = .ok (.iload_n 1, 1) := by decide +kernel
theorem dX11_isHour_1 : decode (mc mX11_isHour) 1 = .ok (.i2l, 1) := by decide +kernel
theorem dX11_isHour_2 : decode (mc mX11_isHour) 2 = .ok (.lconst 0, 1) := by decide +kernel
theorem dX11_isHour_3 : decode (mc mX11_isHour) 3 = .ok (.aload_n 0, 1) := by decide +kernel
theorem dX11_isHour_4 : decode (mc mX11_isHour) 4 = .ok (.getfield 9, 3) := by decide +kernel
theorem dX11_isHour_7 : decode (mc mX11_isHour) 7 = .ok (.iconst 0, 1) := by decide +kernel
theorem dX11_isHour_8 : decode (mc mX11_isHour) 8 = .ok (.iaload, 1) := by decide +kernel
theorem dX11_isHour_9 : decode (mc mX11_isHour) 9 = .ok (.iconst 1, 1) := by decide +kernel
theorem dX11_isHour_10 : decode (mc mX11_isHour) 10 = .ok (.isub, 1) := by decide +kernel
theorem dX11_isHour_11 : decode (mc mX11_isHour) 11 = .ok (.i2l, 1) := by decide +kernel
theorem dX11_isHour_12 : decode (mc mX11_isHour) 12 = .ok (.invokestatic 89, 3) := by decide +kernel
theorem dX11_isHour_15 : decode (mc mX11_isHour) 15 = .ok (.ireturn, 1) := by decide +kernel
theorem dX11_isPlant_0 : decode (mc mX11_isPlant) 0 = .ok (.iload_n 1, 1) := by decide +kernel
theorem dX11_isPlant_1 : decode (mc mX11_isPlant) 1 = .ok (.i2l, 1) := by decide +kernel
theorem dX11_isPlant_2 : decode (mc mX11_isPlant) 2 = .ok (.lconst 0, 1) := by decide +kernel
theorem dX11_isPlant_3 : decode (mc mX11_isPlant) 3 = .ok (.aload_n 0, 1) := by decide +kernel
theorem dX11_isPlant_4 : decode (mc mX11_isPlant) 4 = .ok (.getfield 9, 3) := by decide +kernel
theorem dX11_isPlant_7 : decode (mc mX11_isPlant) 7 = .ok (.iconst 3, 1) := by decide +kernel
theorem dX11_isPlant_8 : decode (mc mX11_isPlant) 8 = .ok (.iaload, 1) := by decide +kernel
theorem dX11_isPlant_9 : decode (mc mX11_isPlant) 9 = .ok (.iconst 1, 1) := by decide +kernel
theorem dX11_isPlant_10 : decode (mc mX11_isPlant) 10 = .ok (.isub, 1) := by decide +kernel
theorem dX11_isPlant_11 : decode (mc mX11_isPlant) 11 = .ok (.i2l, 1) := by decide +kernel
theorem dX11_isPlant_12 : decode (mc mX11_isPlant) 12 = .ok (.invokestatic 89, 3) := by decide +kernel
theorem dX11_isPlant_15 : decode (mc mX11_isPlant) 15 = .ok (.ireturn, 1) := by decide +kernel
theorem dX11_of1_0 : decode (mc mX11_of1) 0 = .ok (.aload_n 0, 1) := by decide +kernel
theorem dX11_of1_1 : decode (mc mX11_of1) 1 = .ok (.getfield 9, 3) := by decide +kernel
theorem dX11_of1_4 : decode (mc mX11_of1) 4 = .ok (.bipush 19, 2) := by decide +kernel
theorem dX11_of1_6 : decode (mc mX11_of1) 6 = .ok (.bipush 10, 2) := by decide +kernel
theorem dX11_of1_8 : decode (mc mX11_of1) 8 = .ok (.iload_n 1, 1) := by decide +kernel
theorem dX11_of1_9 : decode (mc mX11_of1) 9 = .ok (.imul, 1) := by decide +kernel
theorem dX11_of1_10 : decode (mc mX11_of1) 10 = .ok (.iadd, 1) := by decide +kernel
theorem dX11_of1_11 : decode (mc mX11_of1) 11 = .ok (.iload_n 2, 1) := by decide +kernel
theorem dX11_of1_12 : decode (mc mX11_of1) 12 = .ok (.iadd, 1) := by decide +kernel
theorem dX11_of1_13 : decode (mc mX11_of1) 13 = .ok (.iaload, 1) := by decide +kernel
theorem dX11_of1_14 : decode (mc mX11_of1) 14 = .ok (.ireturn, 1) := by decide +kernel
theorem dX11_sets_0 : decode (mc mX11_sets) 0 = .ok (.aload_n 0, 1) := by decide +kernel
theorem dX11_sets_1 : decode (mc mX11_sets) 1 = .ok (.getfield 9, 3) := by decide +kernel
theorem dX11_sets_4 : decode (mc mX11_sets) 4 = .ok (.bipush 19, 2) := by decide +kernel
theorem dX11_sets_6 : decode (mc mX11_sets) 6 = .ok (.bipush 10, 2) := by decide +kernel
theorem dX11_sets_8 : decode (mc mX11_sets) 8 = .ok (.iload_n 1, 1) := by decide +kernel
theorem dX11_sets_9 : decode (mc mX11_sets) 9 = .ok (.imul, 1) := by decide +kernel
theorem dX11_sets_10 : decode (mc mX11_sets) 10 = .ok (.iadd, 1) := by decide +kernel
theorem dX11_sets_11 : decode (mc mX11_sets) 11 = .ok (.iload_n 2, 1) := by decide +kernel
theorem dX11_sets_12 : decode (mc mX11_sets) 12 = .ok (.iadd, 1) := by decide +kernel
theorem dX11_sets_13 : decode (mc mX11_sets) 13 = .ok (.iload_n 3, 1) := by decide +kernel
theorem dX11_sets_14 : decode (mc mX11_sets) 14 = .ok (.iastore, 1) := by decide +kernel
theorem dX11_sets_15 : decode (mc mX11_sets) 15 = .ok (.return_, 1) := by decide +kernel
theorem dX11_has_0 : decode (mc mX11_has) 0 = .ok (.iload_n 0, 1) := by decide +kernel
theorem dX11_has_1 : decode (mc mX11_has) 1 = .ok (.iload_n 1, 1) := by decide +kernel
theorem dX11_has_2 : decode (mc mX11_has) 2 = .ok (.ishr, 1) := by decide +kernel
theorem dX11_has_3 : decode (mc mX11_has) 3 = .ok (.iconst 1, 1) := by decide +kernel
theorem dX11_has_4 : decode (mc mX11_has) 4 = .ok (.iand, 1) := by decide +kernel
theorem dX11_has_5 : decode (mc mX11_has) 5 = .ok (.iconst 1, 1) := by decide +kernel
theorem dX11_has_6 : decode (mc mX11_has) 6 = .ok (.if_icmp .ne 7, 3) := by decide +kernel
theorem dX11_has_9 : decode (mc mX11_has) 9 = .ok (.iconst 1, 1) := by decide +kernel
theorem dX11_has_10 : decode (mc mX11_has) 10 = .ok (.goto 4, 3) := by decide +kernel
theorem dX11_has_13 : decode (mc mX11_has) 13 = .ok (.iconst 0, 1) := by decide +kernel
theorem dX11_has_14 : decode (mc mX11_has) 14 = .ok (.ireturn, 1) := by decide +kernel
theorem dX11_wrongBy_0 : decode (mc mX11_wrongBy) 0 = .ok (.iload_n 0, 1) := by decide +kernel
theorem dX11_wrongBy_1 : decode (mc mX11_wrongBy) 1 = .ok (.iload_n 1, 1) := by decide +kernel
theorem dX11_wrongBy_2 : decode (mc mX11_wrongBy) 2 = .ok (.if_icmp .ge 8, 3) := by decide +kernel
theorem dX11_wrongBy_5 : decode (mc mX11_wrongBy) 5 = .ok (.bipush (-4), 2) := by decide +kernel
theorem dX11_wrongBy_7 : decode (mc mX11_wrongBy) 7 = .ok (.goto 14, 3) := by decide +kernel
theorem dX11_wrongBy_10 : decode (mc mX11_wrongBy) 10 = .ok (.iload_n 0, 1) := by decide +kernel
theorem dX11_wrongBy_11 : decode (mc mX11_wrongBy) 11 = .ok (.iload_n 2, 1) := by decide +kernel
theorem dX11_wrongBy_12 : decode (mc mX11_wrongBy) 12 = .ok (.if_icmp .le 8, 3) := by decide +kernel
theorem dX11_wrongBy_15 : decode (mc mX11_wrongBy) 15 = .ok (.bipush (-6), 2) := by decide +kernel
theorem dX11_wrongBy_17 : decode (mc mX11_wrongBy) 17 = .ok (.goto 4, 3) := by decide +kernel
theorem dX11_wrongBy_20 : decode (mc mX11_wrongBy) 20 = .ok (.iconst 0, 1) := by decide +kernel
theorem dX11_wrongBy_21 : decode (mc mX11_wrongBy) 21 = .ok (.ireturn, 1) := by decide +kernel
theorem dX11_wrongOf_0 : decode (mc mX11_wrongOf) 0 = .ok (.iload_n 0, 1) := by decide +kernel
theorem dX11_wrongOf_1 : decode (mc mX11_wrongOf) 1 = .ok (.iload_n 1, 1) := by decide +kernel
theorem dX11_wrongOf_2 : decode (mc mX11_wrongOf) 2 = .ok (.if_icmp .lt 9, 3) := by decide +kernel
theorem dX11_wrongOf_5 : decode (mc mX11_wrongOf) 5 = .ok (.iload_n 3, 1) := by decide +kernel
theorem dX11_wrongOf_6 : decode (mc mX11_wrongOf) 6 = .ok (.iload 4, 2) := by decide +kernel
theorem dX11_wrongOf_8 : decode (mc mX11_wrongOf) 8 = .ok (.if_icmp .ge 6, 3) := by decide +kernel
theorem dX11_wrongOf_11 : decode (mc mX11_wrongOf) 11 = .ok (.bipush (-4), 2) := by decide +kernel
theorem dX11_wrongOf_13 : decode (mc mX11_wrongOf) 13 = .ok (.ireturn, 1) := by decide +kernel
theorem dX11_wrongOf_14 : decode (mc mX11_wrongOf) 14 = .ok (.iload_n 0, 1) := by decide +kernel
theorem dX11_wrongOf_15 : decode (mc mX11_wrongOf) 15 = .ok (.iload_n 2, 1) := by decide +kernel
theorem dX11_wrongOf_16 : decode (mc mX11_wrongOf) 16 = .ok (.if_icmp .gt 9, 3) := by decide +kernel
theorem dX11_wrongOf_19 : decode (mc mX11_wrongOf) 19 = .ok (.iload_n 3, 1) := by decide +kernel
theorem dX11_wrongOf_20 : decode (mc mX11_wrongOf) 20 = .ok (.iload 5, 2) := by decide +kernel
theorem dX11_wrongOf_22 : decode (mc mX11_wrongOf) 22 = .ok (.if_icmp .le 8, 3) := by decide +kernel
theorem dX11_wrongOf_25 : decode (mc mX11_wrongOf) 25 = .ok (.bipush (-6), 2) := by decide +kernel
theorem dX11_wrongOf_27 : decode (mc mX11_wrongOf) 27 = .ok (.goto 4, 3) := by decide +kernel
theorem dX11_wrongOf_30 : decode (mc mX11_wrongOf) 30 = .ok (.iconst 0, 1) := by decide +kernel
theorem dX11_wrongOf_31 : decode (mc mX11_wrongOf) 31 = .ok (.ireturn, 1) := by decide +kernel
theorem dX11_hoursWrong_0 : decode (mc mX11_hoursWrong) 0 = .ok (.iload_n 1, 1) := by decide +kernel
theorem dX11_hoursWrong_1 : decode (mc mX11_hoursWrong) 1 = .ok (.iconst 1, 1) := by decide +kernel
theorem dX11_hoursWrong_2 : decode (mc mX11_hoursWrong) 2 = .ok (.iconst 5, 1) := by decide +kernel
theorem dX11_hoursWrong_3 : decode (mc mX11_hoursWrong) 3 = .ok (.invokestatic 93, 3) := by decide +kernel
theorem dX11_hoursWrong_6 : decode (mc mX11_hoursWrong) 6 = .ok (.ireturn, 1) := by decide +kernel
theorem dX11_hours_0 : decode (mc mX11_hours) 0 = .ok (.aload_n 0, 1) := by decide +kernel
theorem dX11_hours_1 : decode (mc mX11_hours) 1 = .ok (.iload_n 1, 1) := by decide +kernel
theorem dX11_hours_2 : decode (mc mX11_hours) 2 = .ok (.invokevirtual 97, 3) := by decide +kernel
theorem dX11_hours_5 : decode (mc mX11_hours) 5 = .ok (.istore_n 2, 1) := by decide +kernel
theorem dX11_hours_6 : decode (mc mX11_hours) 6 = .ok (.iload_n 2, 1) := by decide +kernel
theorem dX11_hours_7 : decode (mc mX11_hours) 7 = .ok (.ifCond .eq 9, 3) := by decide +kernel
theorem dX11_hours_10 : decode (mc mX11_hours) 10 = .ok (.aload_n 0, 1) := by decide +kernel
theorem dX11_hours_11 : decode (mc mX11_hours) 11 = .ok (.iload_n 2, 1) := by decide +kernel
theorem dX11_hours_12 : decode (mc mX11_hours) 12 = .ok (.invokevirtual 79, 3) := by decide +kernel
theorem dX11_hours_15 : decode (mc mX11_hours) 15 = .ok (.ireturn, 1) := by decide +kernel
theorem dX11_hours_16 : decode (mc mX11_hours) 16 = .ok (.aload_n 0, 1) := by decide +kernel
theorem dX11_hours_17 : decode (mc mX11_hours) 17 = .ok (.getfield 9, 3) := by decide +kernel
theorem dX11_hours_20 : decode (mc mX11_hours) 20 = .ok (.iconst 0, 1) := by decide +kernel
theorem dX11_hours_21 : decode (mc mX11_hours) 21 = .ok (.iaload, 1) := by decide +kernel
theorem dX11_hours_22 : decode (mc mX11_hours) 22 = .ok (.istore_n 3, 1) := by decide +kernel
theorem dX11_hours_23 : decode (mc mX11_hours) 23 = .ok (.aload_n 0, 1) := by decide +kernel
theorem dX11_hours_24 : decode (mc mX11_hours) 24 = .ok (.getfield 9, 3) := by decide +kernel
theorem dX11_hours_27 : decode (mc mX11_hours) 27 = .ok (.iconst 0, 1) := by decide +kernel
theorem dX11_hours_28 : decode (mc mX11_hours) 28 = .ok (.iload_n 1, 1) := by decide +kernel
theorem dX11_hours_29 : decode (mc mX11_hours) 29 = .ok (.iastore, 1) := by decide +kernel
theorem dX11_hours_30 : decode (mc mX11_hours) 30 = .ok (.iload_n 3, 1) := by decide +kernel
theorem dX11_hours_31 : decode (mc mX11_hours) 31 = .ok (.ireturn, 1) := by decide +kernel
theorem dX11_demandWrong_0 : decode (mc mX11_demandWrong) 0 = .ok (.aload_n 0, 1) := by decide +kernel
theorem dX11_demandWrong_1 : decode (mc mX11_demandWrong) 1 = .ok (.iload_n 1, 1) := by decide +kernel
theorem dX11_demandWrong_2 : decode (mc mX11_demandWrong) 2 = .ok (.invokevirtual 100, 3) := by decide +kernel
theorem dX11_demandWrong_5 : decode (mc mX11_demandWrong) 5 = .ok (.ifCond .eq 17, 3) := by decide +kernel
theorem dX11_demandWrong_8 : decode (mc mX11_demandWrong) 8 = .ok (.iload_n 2, 1) := by decide +kernel
theorem dX11_demandWrong_9 : decode (mc mX11_demandWrong) 9 = .ok (.iconst 0, 1) := by decide +kernel
theorem dX11_demandWrong_10 : decode (mc mX11_demandWrong) 10 = .ok (.bipush 99, 2) := by decide +kernel
theorem dX11_demandWrong_12 : decode (mc mX11_demandWrong) 12 = .ok (.iload_n 3, 1) := by decide +kernel
theorem dX11_demandWrong_13 : decode (mc mX11_demandWrong) 13 = .ok (.iconst 0, 1) := by decide +kernel
theorem dX11_demandWrong_14 : decode (mc mX11_demandWrong) 14 = .ok (.bipush 20, 2) := by decide +kernel
theorem dX11_demandWrong_16 : decode (mc mX11_demandWrong) 16 = .ok (.invokestatic 104, 3) := by decide +kernel
theorem dX11_demandWrong_19 : decode (mc mX11_demandWrong) 19 = .ok (.goto 4, 3) := by decide +kernel
theorem dX11_demandWrong_22 : decode (mc mX11_demandWrong) 22 = .ok (.iconst (-1), 1) := by decide +kernel
theorem dX11_demandWrong_23 : decode (mc mX11_demandWrong) 23 = .ok (.ireturn, 1) := by decide +kernel
theorem dX11_demand_0 : decode (mc mX11_demand) 0 = .ok (.aload_n 0, 1) := by decide +kernel
theorem dX11_demand_1 : decode (mc mX11_demand) 1 = .ok (.iload_n 1, 1) := by decide +kernel
theorem dX11_demand_2 : decode (mc mX11_demand) 2 = .ok (.iload_n 2, 1) := by decide +kernel
theorem dX11_demand_3 : decode (mc mX11_demand) 3 = .ok (.iload_n 3, 1) := by decide +kernel
theorem dX11_demand_4 : decode (mc mX11_demand) 4 = .ok (.invokevirtual 108, 3) := by decide +kernel
theorem dX11_demand_7 : decode (mc mX11_demand) 7 = .ok (.istore 4, 2) := by decide +kernel
theorem dX11_demand_9 : decode (mc mX11_demand) 9 = .ok (.iload 4, 2) := by decide +kernel
theorem dX11_demand_11 : decode (mc mX11_demand) 11 = .ok (.ifCond .eq 10, 3) := by decide +kernel
theorem dX11_demand_14 : decode (mc mX11_demand) 14 = .ok (.aload_n 0, 1) := by decide +kernel
theorem dX11_demand_15 : decode (mc mX11_demand) 15 = .ok (.iload 4, 2) := by decide +kernel
theorem dX11_demand_17 : decode (mc mX11_demand) 17 = .ok (.invokevirtual 79, 3) := by decide +kernel
theorem dX11_demand_20 : decode (mc mX11_demand) 20 = .ok (.ireturn, 1) := by decide +kernel
theorem dX11_demand_21 : decode (mc mX11_demand) 21 = .ok (.bipush 100, 2) := by decide +kernel
theorem dX11_demand_23 : decode (mc mX11_demand) 23 = .ok (.aload_n 0, 1) := by decide +kernel
theorem dX11_demand_24 : decode (mc mX11_demand) 24 = .ok (.getfield 9, 3) := by decide +kernel
theorem dX11_demand_27 : decode (mc mX11_demand) 27 = .ok (.iconst 4, 1) := by decide +kernel
theorem dX11_demand_28 : decode (mc mX11_demand) 28 = .ok (.iload_n 1, 1) := by decide +kernel
theorem dX11_demand_29 : decode (mc mX11_demand) 29 = .ok (.iadd, 1) := by decide +kernel
theorem dX11_demand_30 : decode (mc mX11_demand) 30 = .ok (.iaload, 1) := by decide +kernel
theorem dX11_demand_31 : decode (mc mX11_demand) 31 = .ok (.imul, 1) := by decide +kernel
theorem dX11_demand_32 : decode (mc mX11_demand) 32 = .ok (.aload_n 0, 1) := by decide +kernel
theorem dX11_demand_33 : decode (mc mX11_demand) 33 = .ok (.getfield 9, 3) := by decide +kernel
theorem dX11_demand_36 : decode (mc mX11_demand) 36 = .ok (.bipush 9, 2) := by decide +kernel
theorem dX11_demand_38 : decode (mc mX11_demand) 38 = .ok (.iload_n 1, 1) := by decide +kernel
theorem dX11_demand_39 : decode (mc mX11_demand) 39 = .ok (.iadd, 1) := by decide +kernel
theorem dX11_demand_40 : decode (mc mX11_demand) 40 = .ok (.iaload, 1) := by decide +kernel
theorem dX11_demand_41 : decode (mc mX11_demand) 41 = .ok (.iadd, 1) := by decide +kernel
theorem dX11_demand_42 : decode (mc mX11_demand) 42 = .ok (.istore 5, 2) := by decide +kernel
theorem dX11_demand_44 : decode (mc mX11_demand) 44 = .ok (.aload_n 0, 1) := by decide +kernel
theorem dX11_demand_45 : decode (mc mX11_demand) 45 = .ok (.getfield 9, 3) := by decide +kernel
theorem dX11_demand_48 : decode (mc mX11_demand) 48 = .ok (.iconst 4, 1) := by decide +kernel
theorem dX11_demand_49 : decode (mc mX11_demand) 49 = .ok (.iload_n 1, 1) := by decide +kernel
theorem dX11_demand_50 : decode (mc mX11_demand) 50 = .ok (.iadd, 1) := by decide +kernel
theorem dX11_demand_51 : decode (mc mX11_demand) 51 = .ok (.iload_n 2, 1) := by decide +kernel
theorem dX11_demand_52 : decode (mc mX11_demand) 52 = .ok (.iastore, 1) := by decide +kernel
theorem dX11_demand_53 : decode (mc mX11_demand) 53 = .ok (.aload_n 0, 1) := by decide +kernel
theorem dX11_demand_54 : decode (mc mX11_demand) 54 = .ok (.getfield 9, 3) := by decide +kernel
theorem dX11_demand_57 : decode (mc mX11_demand) 57 = .ok (.bipush 9, 2) := by decide +kernel
theorem dX11_demand_59 : decode (mc mX11_demand) 59 = .ok (.iload_n 1, 1) := by decide +kernel
theorem dX11_demand_60 : decode (mc mX11_demand) 60 = .ok (.iadd, 1) := by decide +kernel
theorem dX11_demand_61 : decode (mc mX11_demand) 61 = .ok (.iload_n 3, 1) := by decide +kernel
theorem dX11_demand_62 : decode (mc mX11_demand) 62 = .ok (.iastore, 1) := by decide +kernel
theorem dX11_demand_63 : decode (mc mX11_demand) 63 = .ok (.iload 5, 2) := by decide +kernel
theorem dX11_demand_65 : decode (mc mX11_demand) 65 = .ok (.ireturn, 1) := by decide +kernel
theorem dX11_plantWrong_0 : decode (mc mX11_plantWrong) 0 = .ok (.iload_n 1, 1) := by decide +kernel
theorem dX11_plantWrong_1 : decode (mc mX11_plantWrong) 1 = .ok (.i2l, 1) := by decide +kernel
theorem dX11_plantWrong_2 : decode (mc mX11_plantWrong) 2 = .ok (.lconst 0, 1) := by decide +kernel
theorem dX11_plantWrong_3 : decode (mc mX11_plantWrong) 3 = .ok (.ldc2_w 111, 3) := by decide +kernel
theorem dX11_plantWrong_6 : decode (mc mX11_plantWrong) 6 = .ok (.invokestatic 89, 3) := by decide +kernel
theorem dX11_plantWrong_9 : decode (mc mX11_plantWrong) 9 = .ok (.ifCond .ne 6, 3) := by decide +kernel
theorem dX11_plantWrong_12 : decode (mc mX11_plantWrong) 12 = .ok (.bipush (-2), 2) := by decide +kernel
theorem dX11_plantWrong_14 : decode (mc mX11_plantWrong) 14 = .ok (.ireturn, 1) := by decide +kernel
theorem dX11_plantWrong_15 : decode (mc mX11_plantWrong) 15 = .ok (.iload_n 2, 1) := by decide +kernel
theorem dX11_plantWrong_16 : decode (mc mX11_plantWrong) 16 = .ok (.iconst 0, 1) := by decide +kernel
theorem dX11_plantWrong_17 : decode (mc mX11_plantWrong) 17 = .ok (.bipush 9, 2) := by decide +kernel
theorem dX11_plantWrong_19 : decode (mc mX11_plantWrong) 19 = .ok (.invokestatic 93, 3) := by decide +kernel
theorem dX11_plantWrong_22 : decode (mc mX11_plantWrong) 22 = .ok (.istore_n 3, 1) := by decide +kernel
theorem dX11_plantWrong_23 : decode (mc mX11_plantWrong) 23 = .ok (.iload_n 3, 1) := by decide +kernel
theorem dX11_plantWrong_24 : decode (mc mX11_plantWrong) 24 = .ok (.ifCond .ne 18, 3) := by decide +kernel
theorem dX11_plantWrong_27 : decode (mc mX11_plantWrong) 27 = .ok (.aload_n 0, 1) := by decide +kernel
theorem dX11_plantWrong_28 : decode (mc mX11_plantWrong) 28 = .ok (.getfield 9, 3) := by decide +kernel
theorem dX11_plantWrong_31 : decode (mc mX11_plantWrong) 31 = .ok (.iconst 3, 1) := by decide +kernel
theorem dX11_plantWrong_32 : decode (mc mX11_plantWrong) 32 = .ok (.iaload, 1) := by decide +kernel
theorem dX11_plantWrong_33 : decode (mc mX11_plantWrong) 33 = .ok (.iconst 3, 1) := by decide +kernel
theorem dX11_plantWrong_34 : decode (mc mX11_plantWrong) 34 = .ok (.if_icmp .ne 8, 3) := by decide +kernel
theorem dX11_plantWrong_37 : decode (mc mX11_plantWrong) 37 = .ok (.bipush (-6), 2) := by decide +kernel
theorem dX11_plantWrong_39 : decode (mc mX11_plantWrong) 39 = .ok (.goto 4, 3) := by decide +kernel
theorem dX11_plantWrong_42 : decode (mc mX11_plantWrong) 42 = .ok (.iload_n 3, 1) := by decide +kernel
theorem dX11_plantWrong_43 : decode (mc mX11_plantWrong) 43 = .ok (.ireturn, 1) := by decide +kernel
theorem dX11_adds_0 : decode (mc mX11_adds) 0 = .ok (.aload_n 0, 1) := by decide +kernel
theorem dX11_adds_1 : decode (mc mX11_adds) 1 = .ok (.getfield 9, 3) := by decide +kernel
theorem dX11_adds_4 : decode (mc mX11_adds) 4 = .ok (.iconst 3, 1) := by decide +kernel
theorem dX11_adds_5 : decode (mc mX11_adds) 5 = .ok (.iaload, 1) := by decide +kernel
theorem dX11_adds_6 : decode (mc mX11_adds) 6 = .ok (.istore_n 3, 1) := by decide +kernel
theorem dX11_adds_7 : decode (mc mX11_adds) 7 = .ok (.aload_n 0, 1) := by decide +kernel
theorem dX11_adds_8 : decode (mc mX11_adds) 8 = .ok (.iload_n 3, 1) := by decide +kernel
theorem dX11_adds_9 : decode (mc mX11_adds) 9 = .ok (.iconst 0, 1) := by decide +kernel
theorem dX11_adds_10 : decode (mc mX11_adds) 10 = .ok (.iload_n 1, 1) := by decide +kernel
theorem dX11_adds_11 : decode (mc mX11_adds) 11 = .ok (.invokevirtual 113, 3) := by decide +kernel
theorem dX11_adds_14 : decode (mc mX11_adds) 14 = .ok (.aload_n 0, 1) := by decide +kernel
theorem dX11_adds_15 : decode (mc mX11_adds) 15 = .ok (.iload_n 3, 1) := by decide +kernel
theorem dX11_adds_16 : decode (mc mX11_adds) 16 = .ok (.iconst 1, 1) := by decide +kernel
theorem dX11_adds_17 : decode (mc mX11_adds) 17 = .ok (.iload_n 2, 1) := by decide +kernel
theorem dX11_adds_18 : decode (mc mX11_adds) 18 = .ok (.invokevirtual 113, 3) := by decide +kernel
theorem dX11_adds_21 : decode (mc mX11_adds) 21 = .ok (.aload_n 0, 1) := by decide +kernel
theorem dX11_adds_22 : decode (mc mX11_adds) 22 = .ok (.iload_n 3, 1) := by decide +kernel
theorem dX11_adds_23 : decode (mc mX11_adds) 23 = .ok (.iconst 2, 1) := by decide +kernel
theorem dX11_adds_24 : decode (mc mX11_adds) 24 = .ok (.iconst 0, 1) := by decide +kernel
theorem dX11_adds_25 : decode (mc mX11_adds) 25 = .ok (.invokevirtual 113, 3) := by decide +kernel
theorem dX11_adds_28 : decode (mc mX11_adds) 28 = .ok (.aload_n 0, 1) := by decide +kernel
theorem dX11_adds_29 : decode (mc mX11_adds) 29 = .ok (.iload_n 3, 1) := by decide +kernel
theorem dX11_adds_30 : decode (mc mX11_adds) 30 = .ok (.iconst 3, 1) := by decide +kernel
theorem dX11_adds_31 : decode (mc mX11_adds) 31 = .ok (.bipush 10, 2) := by decide +kernel
theorem dX11_adds_33 : decode (mc mX11_adds) 33 = .ok (.invokevirtual 113, 3) := by decide +kernel
theorem dX11_adds_36 : decode (mc mX11_adds) 36 = .ok (.aload_n 0, 1) := by decide +kernel
theorem dX11_adds_37 : decode (mc mX11_adds) 37 = .ok (.iload_n 3, 1) := by decide +kernel
theorem dX11_adds_38 : decode (mc mX11_adds) 38 = .ok (.iconst 4, 1) := by decide +kernel
theorem dX11_adds_39 : decode (mc mX11_adds) 39 = .ok (.iconst 1, 1) := by decide +kernel
theorem dX11_adds_40 : decode (mc mX11_adds) 40 = .ok (.invokevirtual 113, 3) := by decide +kernel
theorem dX11_adds_43 : decode (mc mX11_adds) 43 = .ok (.aload_n 0, 1) := by decide +kernel
theorem dX11_adds_44 : decode (mc mX11_adds) 44 = .ok (.iload_n 3, 1) := by decide +kernel
theorem dX11_adds_45 : decode (mc mX11_adds) 45 = .ok (.iconst 5, 1) := by decide +kernel
theorem dX11_adds_46 : decode (mc mX11_adds) 46 = .ok (.iconst 0, 1) := by decide +kernel
theorem dX11_adds_47 : decode (mc mX11_adds) 47 = .ok (.invokevirtual 113, 3) := by decide +kernel
theorem dX11_adds_50 : decode (mc mX11_adds) 50 = .ok (.aload_n 0, 1) := by decide +kernel
theorem dX11_adds_51 : decode (mc mX11_adds) 51 = .ok (.iload_n 3, 1) := by decide +kernel
theorem dX11_adds_52 : decode (mc mX11_adds) 52 = .ok (.bipush 6, 2) := by decide +kernel
theorem dX11_adds_54 : decode (mc mX11_adds) 54 = .ok (.iconst 0, 1) := by decide +kernel
theorem dX11_adds_55 : decode (mc mX11_adds) 55 = .ok (.invokevirtual 113, 3) := by decide +kernel
theorem dX11_adds_58 : decode (mc mX11_adds) 58 = .ok (.aload_n 0, 1) := by decide +kernel
theorem dX11_adds_59 : decode (mc mX11_adds) 59 = .ok (.iload_n 3, 1) := by decide +kernel
theorem dX11_adds_60 : decode (mc mX11_adds) 60 = .ok (.bipush 7, 2) := by decide +kernel
theorem dX11_adds_62 : decode (mc mX11_adds) 62 = .ok (.iconst 1, 1) := by decide +kernel
theorem dX11_adds_63 : decode (mc mX11_adds) 63 = .ok (.invokevirtual 113, 3) := by decide +kernel
theorem dX11_adds_66 : decode (mc mX11_adds) 66 = .ok (.aload_n 0, 1) := by decide +kernel
theorem dX11_adds_67 : decode (mc mX11_adds) 67 = .ok (.iload_n 3, 1) := by decide +kernel
theorem dX11_adds_68 : decode (mc mX11_adds) 68 = .ok (.bipush 8, 2) := by decide +kernel
theorem dX11_adds_70 : decode (mc mX11_adds) 70 = .ok (.iconst 1, 1) := by decide +kernel
theorem dX11_adds_71 : decode (mc mX11_adds) 71 = .ok (.invokevirtual 113, 3) := by decide +kernel
theorem dX11_adds_74 : decode (mc mX11_adds) 74 = .ok (.aload_n 0, 1) := by decide +kernel
theorem dX11_adds_75 : decode (mc mX11_adds) 75 = .ok (.iload_n 3, 1) := by decide +kernel
theorem dX11_adds_76 : decode (mc mX11_adds) 76 = .ok (.bipush 9, 2) := by decide +kernel
theorem dX11_adds_78 : decode (mc mX11_adds) 78 = .ok (.iconst (-1), 1) := by decide +kernel
theorem dX11_adds_79 : decode (mc mX11_adds) 79 = .ok (.invokevirtual 113, 3) := by decide +kernel
theorem dX11_adds_82 : decode (mc mX11_adds) 82 = .ok (.aload_n 0, 1) := by decide +kernel
theorem dX11_adds_83 : decode (mc mX11_adds) 83 = .ok (.getfield 9, 3) := by decide +kernel
theorem dX11_adds_86 : decode (mc mX11_adds) 86 = .ok (.iconst 3, 1) := by decide +kernel
theorem dX11_adds_87 : decode (mc mX11_adds) 87 = .ok (.dup2, 1) := by decide +kernel
theorem dX11_adds_88 : decode (mc mX11_adds) 88 = .ok (.iaload, 1) := by decide +kernel
theorem dX11_adds_89 : decode (mc mX11_adds) 89 = .ok (.iconst 1, 1) := by decide +kernel
theorem dX11_adds_90 : decode (mc mX11_adds) 90 = .ok (.iadd, 1) := by decide +kernel
theorem dX11_adds_91 : decode (mc mX11_adds) 91 = .ok (.iastore, 1) := by decide +kernel
theorem dX11_adds_92 : decode (mc mX11_adds) 92 = .ok (.iload_n 3, 1) := by decide +kernel
theorem dX11_adds_93 : decode (mc mX11_adds) 93 = .ok (.ireturn, 1) := by decide +kernel
theorem dX11_plant_0 : decode (mc mX11_plant) 0 = .ok (.aload_n 0, 1) := by decide +kernel
theorem dX11_plant_1 : decode (mc mX11_plant) 1 = .ok (.iload_n 1, 1) := by decide +kernel
theorem dX11_plant_2 : decode (mc mX11_plant) 2 = .ok (.iload_n 2, 1) := by decide +kernel
theorem dX11_plant_3 : decode (mc mX11_plant) 3 = .ok (.invokevirtual 117, 3) := by decide +kernel
theorem dX11_plant_6 : decode (mc mX11_plant) 6 = .ok (.istore_n 3, 1) := by decide +kernel
theorem dX11_plant_7 : decode (mc mX11_plant) 7 = .ok (.iload_n 3, 1) := by decide +kernel
theorem dX11_plant_8 : decode (mc mX11_plant) 8 = .ok (.ifCond .eq 11, 3) := by decide +kernel
theorem dX11_plant_11 : decode (mc mX11_plant) 11 = .ok (.aload_n 0, 1) := by decide +kernel
theorem dX11_plant_12 : decode (mc mX11_plant) 12 = .ok (.iload_n 3, 1) := by decide +kernel
theorem dX11_plant_13 : decode (mc mX11_plant) 13 = .ok (.invokevirtual 79, 3) := by decide +kernel
theorem dX11_plant_16 : decode (mc mX11_plant) 16 = .ok (.goto 9, 3) := by decide +kernel
theorem dX11_plant_19 : decode (mc mX11_plant) 19 = .ok (.aload_n 0, 1) := by decide +kernel
theorem dX11_plant_20 : decode (mc mX11_plant) 20 = .ok (.iload_n 1, 1) := by decide +kernel
theorem dX11_plant_21 : decode (mc mX11_plant) 21 = .ok (.iload_n 2, 1) := by decide +kernel
theorem dX11_plant_22 : decode (mc mX11_plant) 22 = .ok (.invokevirtual 121, 3) := by decide +kernel
theorem dX11_plant_25 : decode (mc mX11_plant) 25 = .ok (.ireturn, 1) := by decide +kernel
theorem dX11_givesWrong_0 : decode (mc mX11_givesWrong) 0 = .ok (.aload_n 0, 1) := by decide +kernel
theorem dX11_givesWrong_1 : decode (mc mX11_givesWrong) 1 = .ok (.iload_n 1, 1) := by decide +kernel
theorem dX11_givesWrong_2 : decode (mc mX11_givesWrong) 2 = .ok (.invokevirtual 124, 3) := by decide +kernel
theorem dX11_givesWrong_5 : decode (mc mX11_givesWrong) 5 = .ok (.ifCond .ne 5, 3) := by decide +kernel
theorem dX11_givesWrong_8 : decode (mc mX11_givesWrong) 8 = .ok (.iconst (-1), 1) := by decide +kernel
theorem dX11_givesWrong_9 : decode (mc mX11_givesWrong) 9 = .ok (.ireturn, 1) := by decide +kernel
theorem dX11_givesWrong_10 : decode (mc mX11_givesWrong) 10 = .ok (.iload_n 2, 1) := by decide +kernel
theorem dX11_givesWrong_11 : decode (mc mX11_givesWrong) 11 = .ok (.iconst 0, 1) := by decide +kernel
theorem dX11_givesWrong_12 : decode (mc mX11_givesWrong) 12 = .ok (.bipush 30, 2) := by decide +kernel
theorem dX11_givesWrong_14 : decode (mc mX11_givesWrong) 14 = .ok (.iload_n 3, 1) := by decide +kernel
theorem dX11_givesWrong_15 : decode (mc mX11_givesWrong) 15 = .ok (.iconst 0, 1) := by decide +kernel
theorem dX11_givesWrong_16 : decode (mc mX11_givesWrong) 16 = .ok (.bipush 60, 2) := by decide +kernel
theorem dX11_givesWrong_18 : decode (mc mX11_givesWrong) 18 = .ok (.invokestatic 104, 3) := by decide +kernel
theorem dX11_givesWrong_21 : decode (mc mX11_givesWrong) 21 = .ok (.istore 4, 2) := by decide +kernel
theorem dX11_givesWrong_23 : decode (mc mX11_givesWrong) 23 = .ok (.iload 4, 2) := by decide +kernel
theorem dX11_givesWrong_25 : decode (mc mX11_givesWrong) 25 = .ok (.ifCond .ne 13, 3) := by decide +kernel
theorem dX11_givesWrong_28 : decode (mc mX11_givesWrong) 28 = .ok (.iload_n 2, 1) := by decide +kernel
theorem dX11_givesWrong_29 : decode (mc mX11_givesWrong) 29 = .ok (.iload_n 3, 1) := by decide +kernel
theorem dX11_givesWrong_30 : decode (mc mX11_givesWrong) 30 = .ok (.if_icmp .le 8, 3) := by decide +kernel
theorem dX11_givesWrong_33 : decode (mc mX11_givesWrong) 33 = .ok (.bipush (-3), 2) := by decide +kernel
theorem dX11_givesWrong_35 : decode (mc mX11_givesWrong) 35 = .ok (.goto 5, 3) := by decide +kernel
theorem dX11_givesWrong_38 : decode (mc mX11_givesWrong) 38 = .ok (.iload 4, 2) := by decide +kernel
theorem dX11_givesWrong_40 : decode (mc mX11_givesWrong) 40 = .ok (.ireturn, 1) := by decide +kernel
theorem dX11_gives_0 : decode (mc mX11_gives) 0 = .ok (.aload_n 0, 1) := by decide +kernel
theorem dX11_gives_1 : decode (mc mX11_gives) 1 = .ok (.iload_n 1, 1) := by decide +kernel
theorem dX11_gives_2 : decode (mc mX11_gives) 2 = .ok (.iload_n 2, 1) := by decide +kernel
theorem dX11_gives_3 : decode (mc mX11_gives) 3 = .ok (.iload_n 3, 1) := by decide +kernel
theorem dX11_gives_4 : decode (mc mX11_gives) 4 = .ok (.invokevirtual 127, 3) := by decide +kernel
theorem dX11_gives_7 : decode (mc mX11_gives) 7 = .ok (.istore 4, 2) := by decide +kernel
theorem dX11_gives_9 : decode (mc mX11_gives) 9 = .ok (.iload 4, 2) := by decide +kernel
theorem dX11_gives_11 : decode (mc mX11_gives) 11 = .ok (.ifCond .eq 10, 3) := by decide +kernel
theorem dX11_gives_14 : decode (mc mX11_gives) 14 = .ok (.aload_n 0, 1) := by decide +kernel
theorem dX11_gives_15 : decode (mc mX11_gives) 15 = .ok (.iload 4, 2) := by decide +kernel
theorem dX11_gives_17 : decode (mc mX11_gives) 17 = .ok (.invokevirtual 79, 3) := by decide +kernel
theorem dX11_gives_20 : decode (mc mX11_gives) 20 = .ok (.ireturn, 1) := by decide +kernel
theorem dX11_gives_21 : decode (mc mX11_gives) 21 = .ok (.bipush 100, 2) := by decide +kernel
theorem dX11_gives_23 : decode (mc mX11_gives) 23 = .ok (.aload_n 0, 1) := by decide +kernel
theorem dX11_gives_24 : decode (mc mX11_gives) 24 = .ok (.iload_n 1, 1) := by decide +kernel
theorem dX11_gives_25 : decode (mc mX11_gives) 25 = .ok (.iconst 2, 1) := by decide +kernel
theorem dX11_gives_26 : decode (mc mX11_gives) 26 = .ok (.invokevirtual 130, 3) := by decide +kernel
theorem dX11_gives_29 : decode (mc mX11_gives) 29 = .ok (.imul, 1) := by decide +kernel
theorem dX11_gives_30 : decode (mc mX11_gives) 30 = .ok (.aload_n 0, 1) := by decide +kernel
theorem dX11_gives_31 : decode (mc mX11_gives) 31 = .ok (.iload_n 1, 1) := by decide +kernel
theorem dX11_gives_32 : decode (mc mX11_gives) 32 = .ok (.iconst 3, 1) := by decide +kernel
theorem dX11_gives_33 : decode (mc mX11_gives) 33 = .ok (.invokevirtual 130, 3) := by decide +kernel
theorem dX11_gives_36 : decode (mc mX11_gives) 36 = .ok (.iadd, 1) := by decide +kernel
theorem dX11_gives_37 : decode (mc mX11_gives) 37 = .ok (.istore 5, 2) := by decide +kernel
theorem dX11_gives_39 : decode (mc mX11_gives) 39 = .ok (.aload_n 0, 1) := by decide +kernel
theorem dX11_gives_40 : decode (mc mX11_gives) 40 = .ok (.iload_n 1, 1) := by decide +kernel
theorem dX11_gives_41 : decode (mc mX11_gives) 41 = .ok (.iconst 2, 1) := by decide +kernel
theorem dX11_gives_42 : decode (mc mX11_gives) 42 = .ok (.iload_n 2, 1) := by decide +kernel
theorem dX11_gives_43 : decode (mc mX11_gives) 43 = .ok (.invokevirtual 113, 3) := by decide +kernel
theorem dX11_gives_46 : decode (mc mX11_gives) 46 = .ok (.aload_n 0, 1) := by decide +kernel
theorem dX11_gives_47 : decode (mc mX11_gives) 47 = .ok (.iload_n 1, 1) := by decide +kernel
theorem dX11_gives_48 : decode (mc mX11_gives) 48 = .ok (.iconst 3, 1) := by decide +kernel
theorem dX11_gives_49 : decode (mc mX11_gives) 49 = .ok (.iload_n 3, 1) := by decide +kernel
theorem dX11_gives_50 : decode (mc mX11_gives) 50 = .ok (.invokevirtual 113, 3) := by decide +kernel
theorem dX11_gives_53 : decode (mc mX11_gives) 53 = .ok (.iload 5, 2) := by decide +kernel
theorem dX11_gives_55 : decode (mc mX11_gives) 55 = .ok (.ireturn, 1) := by decide +kernel
theorem dX11_costsWrong_0 : decode (mc mX11_costsWrong) 0 = .ok (.aload_n 0, 1) := by decide +kernel
theorem dX11_costsWrong_1 : decode (mc mX11_costsWrong) 1 = .ok (.iload_n 1, 1) := by decide +kernel
theorem dX11_costsWrong_2 : decode (mc mX11_costsWrong) 2 = .ok (.invokevirtual 124, 3) := by decide +kernel
theorem dX11_costsWrong_5 : decode (mc mX11_costsWrong) 5 = .ok (.ifCond .ne 5, 3) := by decide +kernel
theorem dX11_costsWrong_8 : decode (mc mX11_costsWrong) 8 = .ok (.iconst (-1), 1) := by decide +kernel
theorem dX11_costsWrong_9 : decode (mc mX11_costsWrong) 9 = .ok (.ireturn, 1) := by decide +kernel
theorem dX11_costsWrong_10 : decode (mc mX11_costsWrong) 10 = .ok (.iload_n 2, 1) := by decide +kernel
theorem dX11_costsWrong_11 : decode (mc mX11_costsWrong) 11 = .ok (.ifCond .lt 12, 3) := by decide +kernel
theorem dX11_costsWrong_14 : decode (mc mX11_costsWrong) 14 = .ok (.iload_n 3, 1) := by decide +kernel
theorem dX11_costsWrong_15 : decode (mc mX11_costsWrong) 15 = .ok (.ifCond .lt 8, 3) := by decide +kernel
theorem dX11_costsWrong_18 : decode (mc mX11_costsWrong) 18 = .ok (.iload 4, 2) := by decide +kernel
theorem dX11_costsWrong_20 : decode (mc mX11_costsWrong) 20 = .ok (.ifCond .ge 6, 3) := by decide +kernel
theorem dX11_costsWrong_23 : decode (mc mX11_costsWrong) 23 = .ok (.bipush (-4), 2) := by decide +kernel
theorem dX11_costsWrong_25 : decode (mc mX11_costsWrong) 25 = .ok (.ireturn, 1) := by decide +kernel
theorem dX11_costsWrong_26 : decode (mc mX11_costsWrong) 26 = .ok (.iload_n 2, 1) := by decide +kernel
theorem dX11_costsWrong_27 : decode (mc mX11_costsWrong) 27 = .ok (.bipush 9, 2) := by decide +kernel
theorem dX11_costsWrong_29 : decode (mc mX11_costsWrong) 29 = .ok (.if_icmp .gt 16, 3) := by decide +kernel
theorem dX11_costsWrong_32 : decode (mc mX11_costsWrong) 32 = .ok (.iload_n 3, 1) := by decide +kernel
theorem dX11_costsWrong_33 : decode (mc mX11_costsWrong) 33 = .ok (.bipush 30, 2) := by decide +kernel
theorem dX11_costsWrong_35 : decode (mc mX11_costsWrong) 35 = .ok (.if_icmp .gt 10, 3) := by decide +kernel
theorem dX11_costsWrong_38 : decode (mc mX11_costsWrong) 38 = .ok (.iload 4, 2) := by decide +kernel
theorem dX11_costsWrong_40 : decode (mc mX11_costsWrong) 40 = .ok (.bipush 50, 2) := by decide +kernel
theorem dX11_costsWrong_42 : decode (mc mX11_costsWrong) 42 = .ok (.if_icmp .le 8, 3) := by decide +kernel
theorem dX11_costsWrong_45 : decode (mc mX11_costsWrong) 45 = .ok (.bipush (-6), 2) := by decide +kernel
theorem dX11_costsWrong_47 : decode (mc mX11_costsWrong) 47 = .ok (.goto 4, 3) := by decide +kernel
theorem dX11_costsWrong_50 : decode (mc mX11_costsWrong) 50 = .ok (.iconst 0, 1) := by decide +kernel
theorem dX11_costsWrong_51 : decode (mc mX11_costsWrong) 51 = .ok (.ireturn, 1) := by decide +kernel
theorem dX11_costs_0 : decode (mc mX11_costs) 0 = .ok (.aload_n 0, 1) := by decide +kernel
theorem dX11_costs_1 : decode (mc mX11_costs) 1 = .ok (.iload_n 1, 1) := by decide +kernel
theorem dX11_costs_2 : decode (mc mX11_costs) 2 = .ok (.iload_n 2, 1) := by decide +kernel
theorem dX11_costs_3 : decode (mc mX11_costs) 3 = .ok (.iload_n 3, 1) := by decide +kernel
theorem dX11_costs_4 : decode (mc mX11_costs) 4 = .ok (.iload 4, 2) := by decide +kernel
theorem dX11_costs_6 : decode (mc mX11_costs) 6 = .ok (.invokevirtual 133, 3) := by decide +kernel
theorem dX11_costs_9 : decode (mc mX11_costs) 9 = .ok (.istore 5, 2) := by decide +kernel
theorem dX11_costs_11 : decode (mc mX11_costs) 11 = .ok (.iload 5, 2) := by decide +kernel
theorem dX11_costs_13 : decode (mc mX11_costs) 13 = .ok (.ifCond .eq 10, 3) := by decide +kernel
theorem dX11_costs_16 : decode (mc mX11_costs) 16 = .ok (.aload_n 0, 1) := by decide +kernel
theorem dX11_costs_17 : decode (mc mX11_costs) 17 = .ok (.iload 5, 2) := by decide +kernel
theorem dX11_costs_19 : decode (mc mX11_costs) 19 = .ok (.invokevirtual 79, 3) := by decide +kernel
theorem dX11_costs_22 : decode (mc mX11_costs) 22 = .ok (.ireturn, 1) := by decide +kernel
theorem dX11_costs_23 : decode (mc mX11_costs) 23 = .ok (.sipush 10000, 3) := by decide +kernel
theorem dX11_costs_26 : decode (mc mX11_costs) 26 = .ok (.aload_n 0, 1) := by decide +kernel
theorem dX11_costs_27 : decode (mc mX11_costs) 27 = .ok (.iload_n 1, 1) := by decide +kernel
theorem dX11_costs_28 : decode (mc mX11_costs) 28 = .ok (.iconst 4, 1) := by decide +kernel
theorem dX11_costs_29 : decode (mc mX11_costs) 29 = .ok (.invokevirtual 130, 3) := by decide +kernel
theorem dX11_costs_32 : decode (mc mX11_costs) 32 = .ok (.imul, 1) := by decide +kernel
theorem dX11_costs_33 : decode (mc mX11_costs) 33 = .ok (.bipush 100, 2) := by decide +kernel
theorem dX11_costs_35 : decode (mc mX11_costs) 35 = .ok (.aload_n 0, 1) := by decide +kernel
theorem dX11_costs_36 : decode (mc mX11_costs) 36 = .ok (.iload_n 1, 1) := by decide +kernel
theorem dX11_costs_37 : decode (mc mX11_costs) 37 = .ok (.iconst 5, 1) := by decide +kernel
theorem dX11_costs_38 : decode (mc mX11_costs) 38 = .ok (.invokevirtual 130, 3) := by decide +kernel
theorem dX11_costs_41 : decode (mc mX11_costs) 41 = .ok (.imul, 1) := by decide +kernel
theorem dX11_costs_42 : decode (mc mX11_costs) 42 = .ok (.iadd, 1) := by decide +kernel
theorem dX11_costs_43 : decode (mc mX11_costs) 43 = .ok (.aload_n 0, 1) := by decide +kernel
theorem dX11_costs_44 : decode (mc mX11_costs) 44 = .ok (.iload_n 1, 1) := by decide +kernel
theorem dX11_costs_45 : decode (mc mX11_costs) 45 = .ok (.bipush 6, 2) := by decide +kernel
theorem dX11_costs_47 : decode (mc mX11_costs) 47 = .ok (.invokevirtual 130, 3) := by decide +kernel
theorem dX11_costs_50 : decode (mc mX11_costs) 50 = .ok (.iadd, 1) := by decide +kernel
theorem dX11_costs_51 : decode (mc mX11_costs) 51 = .ok (.istore 6, 2) := by decide +kernel
theorem dX11_costs_53 : decode (mc mX11_costs) 53 = .ok (.aload_n 0, 1) := by decide +kernel
theorem dX11_costs_54 : decode (mc mX11_costs) 54 = .ok (.iload_n 1, 1) := by decide +kernel
theorem dX11_costs_55 : decode (mc mX11_costs) 55 = .ok (.iconst 4, 1) := by decide +kernel
theorem dX11_costs_56 : decode (mc mX11_costs) 56 = .ok (.iload_n 2, 1) := by decide +kernel
theorem dX11_costs_57 : decode (mc mX11_costs) 57 = .ok (.invokevirtual 113, 3) := by decide +kernel
theorem dX11_costs_60 : decode (mc mX11_costs) 60 = .ok (.aload_n 0, 1) := by decide +kernel
theorem dX11_costs_61 : decode (mc mX11_costs) 61 = .ok (.iload_n 1, 1) := by decide +kernel
theorem dX11_costs_62 : decode (mc mX11_costs) 62 = .ok (.iconst 5, 1) := by decide +kernel
theorem dX11_costs_63 : decode (mc mX11_costs) 63 = .ok (.iload_n 3, 1) := by decide +kernel
theorem dX11_costs_64 : decode (mc mX11_costs) 64 = .ok (.invokevirtual 113, 3) := by decide +kernel
theorem dX11_costs_67 : decode (mc mX11_costs) 67 = .ok (.aload_n 0, 1) := by decide +kernel
theorem dX11_costs_68 : decode (mc mX11_costs) 68 = .ok (.iload_n 1, 1) := by decide +kernel
theorem dX11_costs_69 : decode (mc mX11_costs) 69 = .ok (.bipush 6, 2) := by decide +kernel
theorem dX11_costs_71 : decode (mc mX11_costs) 71 = .ok (.iload 4, 2) := by decide +kernel
theorem dX11_costs_73 : decode (mc mX11_costs) 73 = .ok (.invokevirtual 113, 3) := by decide +kernel
theorem dX11_costs_76 : decode (mc mX11_costs) 76 = .ok (.iload 6, 2) := by decide +kernel
theorem dX11_costs_78 : decode (mc mX11_costs) 78 = .ok (.ireturn, 1) := by decide +kernel
theorem dX11_timesWrong_0 : decode (mc mX11_timesWrong) 0 = .ok (.aload_n 0, 1) := by decide +kernel
theorem dX11_timesWrong_1 : decode (mc mX11_timesWrong) 1 = .ok (.iload_n 1, 1) := by decide +kernel
theorem dX11_timesWrong_2 : decode (mc mX11_timesWrong) 2 = .ok (.invokevirtual 124, 3) := by decide +kernel
theorem dX11_timesWrong_5 : decode (mc mX11_timesWrong) 5 = .ok (.ifCond .eq 15, 3) := by decide +kernel
theorem dX11_timesWrong_8 : decode (mc mX11_timesWrong) 8 = .ok (.iload_n 2, 1) := by decide +kernel
theorem dX11_timesWrong_9 : decode (mc mX11_timesWrong) 9 = .ok (.iconst 1, 1) := by decide +kernel
theorem dX11_timesWrong_10 : decode (mc mX11_timesWrong) 10 = .ok (.iconst 3, 1) := by decide +kernel
theorem dX11_timesWrong_11 : decode (mc mX11_timesWrong) 11 = .ok (.iload_n 3, 1) := by decide +kernel
theorem dX11_timesWrong_12 : decode (mc mX11_timesWrong) 12 = .ok (.iconst 1, 1) := by decide +kernel
theorem dX11_timesWrong_13 : decode (mc mX11_timesWrong) 13 = .ok (.iconst 3, 1) := by decide +kernel
theorem dX11_timesWrong_14 : decode (mc mX11_timesWrong) 14 = .ok (.invokestatic 104, 3) := by decide +kernel
theorem dX11_timesWrong_17 : decode (mc mX11_timesWrong) 17 = .ok (.goto 4, 3) := by decide +kernel
theorem dX11_timesWrong_20 : decode (mc mX11_timesWrong) 20 = .ok (.iconst (-1), 1) := by decide +kernel
theorem dX11_timesWrong_21 : decode (mc mX11_timesWrong) 21 = .ok (.ireturn, 1) := by decide +kernel
theorem dX11_times_0 : decode (mc mX11_times) 0 = .ok (.aload_n 0, 1) := by decide +kernel
theorem dX11_times_1 : decode (mc mX11_times) 1 = .ok (.iload_n 1, 1) := by decide +kernel
theorem dX11_times_2 : decode (mc mX11_times) 2 = .ok (.iload_n 2, 1) := by decide +kernel
theorem dX11_times_3 : decode (mc mX11_times) 3 = .ok (.iload_n 3, 1) := by decide +kernel
theorem dX11_times_4 : decode (mc mX11_times) 4 = .ok (.invokevirtual 137, 3) := by decide +kernel
theorem dX11_times_7 : decode (mc mX11_times) 7 = .ok (.istore 4, 2) := by decide +kernel
theorem dX11_times_9 : decode (mc mX11_times) 9 = .ok (.iload 4, 2) := by decide +kernel
theorem dX11_times_11 : decode (mc mX11_times) 11 = .ok (.ifCond .eq 10, 3) := by decide +kernel
theorem dX11_times_14 : decode (mc mX11_times) 14 = .ok (.aload_n 0, 1) := by decide +kernel
theorem dX11_times_15 : decode (mc mX11_times) 15 = .ok (.iload 4, 2) := by decide +kernel
theorem dX11_times_17 : decode (mc mX11_times) 17 = .ok (.invokevirtual 79, 3) := by decide +kernel
theorem dX11_times_20 : decode (mc mX11_times) 20 = .ok (.ireturn, 1) := by decide +kernel
theorem dX11_times_21 : decode (mc mX11_times) 21 = .ok (.bipush 10, 2) := by decide +kernel
theorem dX11_times_23 : decode (mc mX11_times) 23 = .ok (.aload_n 0, 1) := by decide +kernel
theorem dX11_times_24 : decode (mc mX11_times) 24 = .ok (.iload_n 1, 1) := by decide +kernel
theorem dX11_times_25 : decode (mc mX11_times) 25 = .ok (.bipush 7, 2) := by decide +kernel
theorem dX11_times_27 : decode (mc mX11_times) 27 = .ok (.invokevirtual 130, 3) := by decide +kernel
theorem dX11_times_30 : decode (mc mX11_times) 30 = .ok (.imul, 1) := by decide +kernel
theorem dX11_times_31 : decode (mc mX11_times) 31 = .ok (.aload_n 0, 1) := by decide +kernel
theorem dX11_times_32 : decode (mc mX11_times) 32 = .ok (.iload_n 1, 1) := by decide +kernel
theorem dX11_times_33 : decode (mc mX11_times) 33 = .ok (.bipush 8, 2) := by decide +kernel
theorem dX11_times_35 : decode (mc mX11_times) 35 = .ok (.invokevirtual 130, 3) := by decide +kernel
theorem dX11_times_38 : decode (mc mX11_times) 38 = .ok (.iadd, 1) := by decide +kernel
theorem dX11_times_39 : decode (mc mX11_times) 39 = .ok (.istore 5, 2) := by decide +kernel
theorem dX11_times_41 : decode (mc mX11_times) 41 = .ok (.aload_n 0, 1) := by decide +kernel
theorem dX11_times_42 : decode (mc mX11_times) 42 = .ok (.iload_n 1, 1) := by decide +kernel
theorem dX11_times_43 : decode (mc mX11_times) 43 = .ok (.bipush 7, 2) := by decide +kernel
theorem dX11_times_45 : decode (mc mX11_times) 45 = .ok (.iload_n 2, 1) := by decide +kernel
theorem dX11_times_46 : decode (mc mX11_times) 46 = .ok (.invokevirtual 113, 3) := by decide +kernel
theorem dX11_times_49 : decode (mc mX11_times) 49 = .ok (.aload_n 0, 1) := by decide +kernel
theorem dX11_times_50 : decode (mc mX11_times) 50 = .ok (.iload_n 1, 1) := by decide +kernel
theorem dX11_times_51 : decode (mc mX11_times) 51 = .ok (.bipush 8, 2) := by decide +kernel
theorem dX11_times_53 : decode (mc mX11_times) 53 = .ok (.iload_n 3, 1) := by decide +kernel
theorem dX11_times_54 : decode (mc mX11_times) 54 = .ok (.invokevirtual 113, 3) := by decide +kernel
theorem dX11_times_57 : decode (mc mX11_times) 57 = .ok (.iload 5, 2) := by decide +kernel
theorem dX11_times_59 : decode (mc mX11_times) 59 = .ok (.ireturn, 1) := by decide +kernel
theorem dX11_ageWrong_0 : decode (mc mX11_ageWrong) 0 = .ok (.aload_n 0, 1) := by decide +kernel
theorem dX11_ageWrong_1 : decode (mc mX11_ageWrong) 1 = .ok (.iload_n 1, 1) := by decide +kernel
theorem dX11_ageWrong_2 : decode (mc mX11_ageWrong) 2 = .ok (.invokevirtual 124, 3) := by decide +kernel
theorem dX11_ageWrong_5 : decode (mc mX11_ageWrong) 5 = .ok (.ifCond .ne 5, 3) := by decide +kernel
theorem dX11_ageWrong_8 : decode (mc mX11_ageWrong) 8 = .ok (.iconst (-1), 1) := by decide +kernel
theorem dX11_ageWrong_9 : decode (mc mX11_ageWrong) 9 = .ok (.ireturn, 1) := by decide +kernel
theorem dX11_ageWrong_10 : decode (mc mX11_ageWrong) 10 = .ok (.iload_n 2, 1) := by decide +kernel
theorem dX11_ageWrong_11 : decode (mc mX11_ageWrong) 11 = .ok (.bipush (-4), 2) := by decide +kernel
theorem dX11_ageWrong_13 : decode (mc mX11_ageWrong) 13 = .ok (.iconst 4, 1) := by decide +kernel
theorem dX11_ageWrong_14 : decode (mc mX11_ageWrong) 14 = .ok (.invokestatic 93, 3) := by decide +kernel
theorem dX11_ageWrong_17 : decode (mc mX11_ageWrong) 17 = .ok (.istore_n 3, 1) := by decide +kernel
theorem dX11_ageWrong_18 : decode (mc mX11_ageWrong) 18 = .ok (.iload_n 3, 1) := by decide +kernel
theorem dX11_ageWrong_19 : decode (mc mX11_ageWrong) 19 = .ok (.ifCond .ne 12, 3) := by decide +kernel
theorem dX11_ageWrong_22 : decode (mc mX11_ageWrong) 22 = .ok (.iload_n 2, 1) := by decide +kernel
theorem dX11_ageWrong_23 : decode (mc mX11_ageWrong) 23 = .ok (.ifCond .ne 8, 3) := by decide +kernel
theorem dX11_ageWrong_26 : decode (mc mX11_ageWrong) 26 = .ok (.bipush (-3), 2) := by decide +kernel
theorem dX11_ageWrong_28 : decode (mc mX11_ageWrong) 28 = .ok (.goto 4, 3) := by decide +kernel
theorem dX11_ageWrong_31 : decode (mc mX11_ageWrong) 31 = .ok (.iload_n 3, 1) := by decide +kernel
theorem dX11_ageWrong_32 : decode (mc mX11_ageWrong) 32 = .ok (.ireturn, 1) := by decide +kernel
theorem dX11_age_0 : decode (mc mX11_age) 0 = .ok (.aload_n 0, 1) := by decide +kernel
theorem dX11_age_1 : decode (mc mX11_age) 1 = .ok (.iload_n 1, 1) := by decide +kernel
theorem dX11_age_2 : decode (mc mX11_age) 2 = .ok (.iload_n 2, 1) := by decide +kernel
theorem dX11_age_3 : decode (mc mX11_age) 3 = .ok (.invokevirtual 140, 3) := by decide +kernel
theorem dX11_age_6 : decode (mc mX11_age) 6 = .ok (.istore_n 3, 1) := by decide +kernel
theorem dX11_age_7 : decode (mc mX11_age) 7 = .ok (.iload_n 3, 1) := by decide +kernel
theorem dX11_age_8 : decode (mc mX11_age) 8 = .ok (.ifCond .eq 9, 3) := by decide +kernel
theorem dX11_age_11 : decode (mc mX11_age) 11 = .ok (.aload_n 0, 1) := by decide +kernel
theorem dX11_age_12 : decode (mc mX11_age) 12 = .ok (.iload_n 3, 1) := by decide +kernel
theorem dX11_age_13 : decode (mc mX11_age) 13 = .ok (.invokevirtual 79, 3) := by decide +kernel
theorem dX11_age_16 : decode (mc mX11_age) 16 = .ok (.ireturn, 1) := by decide +kernel
theorem dX11_age_17 : decode (mc mX11_age) 17 = .ok (.aload_n 0, 1) := by decide +kernel
theorem dX11_age_18 : decode (mc mX11_age) 18 = .ok (.iload_n 1, 1) := by decide +kernel
theorem dX11_age_19 : decode (mc mX11_age) 19 = .ok (.bipush 9, 2) := by decide +kernel
theorem dX11_age_21 : decode (mc mX11_age) 21 = .ok (.invokevirtual 130, 3) := by decide +kernel
theorem dX11_age_24 : decode (mc mX11_age) 24 = .ok (.bipush 10, 2) := by decide +kernel
theorem dX11_age_26 : decode (mc mX11_age) 26 = .ok (.iadd, 1) := by decide +kernel
theorem dX11_age_27 : decode (mc mX11_age) 27 = .ok (.istore 4, 2) := by decide +kernel
theorem dX11_age_29 : decode (mc mX11_age) 29 = .ok (.aload_n 0, 1) := by decide +kernel
theorem dX11_age_30 : decode (mc mX11_age) 30 = .ok (.iload_n 1, 1) := by decide +kernel
theorem dX11_age_31 : decode (mc mX11_age) 31 = .ok (.bipush 9, 2) := by decide +kernel
theorem dX11_age_33 : decode (mc mX11_age) 33 = .ok (.iload_n 2, 1) := by decide +kernel
theorem dX11_age_34 : decode (mc mX11_age) 34 = .ok (.invokevirtual 113, 3) := by decide +kernel
theorem dX11_age_37 : decode (mc mX11_age) 37 = .ok (.iload 4, 2) := by decide +kernel
theorem dX11_age_39 : decode (mc mX11_age) 39 = .ok (.ireturn, 1) := by decide +kernel
theorem dX11_merit_0 : decode (mc mX11_merit) 0 = .ok (.iload_n 1, 1) := by decide +kernel
theorem dX11_merit_1 : decode (mc mX11_merit) 1 = .ok (.i2l, 1) := by decide +kernel
theorem dX11_merit_2 : decode (mc mX11_merit) 2 = .ok (.lconst 0, 1) := by decide +kernel
theorem dX11_merit_3 : decode (mc mX11_merit) 3 = .ok (.ldc2_w 143, 3) := by decide +kernel
theorem dX11_merit_6 : decode (mc mX11_merit) 6 = .ok (.invokestatic 89, 3) := by decide +kernel
theorem dX11_merit_9 : decode (mc mX11_merit) 9 = .ok (.ifCond .ne 10, 3) := by decide +kernel
theorem dX11_merit_12 : decode (mc mX11_merit) 12 = .ok (.aload_n 0, 1) := by decide +kernel
theorem dX11_merit_13 : decode (mc mX11_merit) 13 = .ok (.bipush (-2), 2) := by decide +kernel
theorem dX11_merit_15 : decode (mc mX11_merit) 15 = .ok (.invokevirtual 79, 3) := by decide +kernel
theorem dX11_merit_18 : decode (mc mX11_merit) 18 = .ok (.ireturn, 1) := by decide +kernel
theorem dX11_merit_19 : decode (mc mX11_merit) 19 = .ok (.aload_n 0, 1) := by decide +kernel
theorem dX11_merit_20 : decode (mc mX11_merit) 20 = .ok (.getfield 9, 3) := by decide +kernel
theorem dX11_merit_23 : decode (mc mX11_merit) 23 = .ok (.iconst 1, 1) := by decide +kernel
theorem dX11_merit_24 : decode (mc mX11_merit) 24 = .ok (.iaload, 1) := by decide +kernel
theorem dX11_merit_25 : decode (mc mX11_merit) 25 = .ok (.istore_n 2, 1) := by decide +kernel
theorem dX11_merit_26 : decode (mc mX11_merit) 26 = .ok (.aload_n 0, 1) := by decide +kernel
theorem dX11_merit_27 : decode (mc mX11_merit) 27 = .ok (.getfield 9, 3) := by decide +kernel
theorem dX11_merit_30 : decode (mc mX11_merit) 30 = .ok (.iconst 1, 1) := by decide +kernel
theorem dX11_merit_31 : decode (mc mX11_merit) 31 = .ok (.iload_n 1, 1) := by decide +kernel
theorem dX11_merit_32 : decode (mc mX11_merit) 32 = .ok (.iastore, 1) := by decide +kernel
theorem dX11_merit_33 : decode (mc mX11_merit) 33 = .ok (.iload_n 2, 1) := by decide +kernel
theorem dX11_merit_34 : decode (mc mX11_merit) 34 = .ok (.ireturn, 1) := by decide +kernel
theorem dX11_startsBy_0 : decode (mc mX11_startsBy) 0 = .ok (.iload_n 3, 1) := by decide +kernel
theorem dX11_startsBy_1 : decode (mc mX11_startsBy) 1 = .ok (.iconst 4, 1) := by decide +kernel
theorem dX11_startsBy_2 : decode (mc mX11_startsBy) 2 = .ok (.if_icmp .le 7, 3) := by decide +kernel
theorem dX11_startsBy_5 : decode (mc mX11_startsBy) 5 = .ok (.iconst 4, 1) := by decide +kernel
theorem dX11_startsBy_6 : decode (mc mX11_startsBy) 6 = .ok (.goto 4, 3) := by decide +kernel
theorem dX11_startsBy_9 : decode (mc mX11_startsBy) 9 = .ok (.iload_n 3, 1) := by decide +kernel
theorem dX11_startsBy_10 : decode (mc mX11_startsBy) 10 = .ok (.istore 4, 2) := by decide +kernel
theorem dX11_startsBy_12 : decode (mc mX11_startsBy) 12 = .ok (.iload_n 2, 1) := by decide +kernel
theorem dX11_startsBy_13 : decode (mc mX11_startsBy) 13 = .ok (.iload_n 1, 1) := by decide +kernel
theorem dX11_startsBy_14 : decode (mc mX11_startsBy) 14 = .ok (.iload 4, 2) := by decide +kernel
theorem dX11_startsBy_16 : decode (mc mX11_startsBy) 16 = .ok (.imul, 1) := by decide +kernel
theorem dX11_startsBy_17 : decode (mc mX11_startsBy) 17 = .ok (.iadd, 1) := by decide +kernel
theorem dX11_startsBy_18 : decode (mc mX11_startsBy) 18 = .ok (.istore 5, 2) := by decide +kernel
theorem dX11_startsBy_20 : decode (mc mX11_startsBy) 20 = .ok (.iload_n 0, 1) := by decide +kernel
theorem dX11_startsBy_21 : decode (mc mX11_startsBy) 21 = .ok (.tableswitch 58 1 5 #[35, 58, 54, 38, 54], 35) := by decide +kernel
theorem dX11_startsBy_56 : decode (mc mX11_startsBy) 56 = .ok (.iload 5, 2) := by decide +kernel
theorem dX11_startsBy_58 : decode (mc mX11_startsBy) 58 = .ok (.ireturn, 1) := by decide +kernel
theorem dX11_startsBy_59 : decode (mc mX11_startsBy) 59 = .ok (.iload 4, 2) := by decide +kernel
theorem dX11_startsBy_61 : decode (mc mX11_startsBy) 61 = .ok (.iconst 1, 1) := by decide +kernel
theorem dX11_startsBy_62 : decode (mc mX11_startsBy) 62 = .ok (.if_icmp .ne 10, 3) := by decide +kernel
theorem dX11_startsBy_65 : decode (mc mX11_startsBy) 65 = .ok (.iload 5, 2) := by decide +kernel
theorem dX11_startsBy_67 : decode (mc mX11_startsBy) 67 = .ok (.iconst 2, 1) := by decide +kernel
theorem dX11_startsBy_68 : decode (mc mX11_startsBy) 68 = .ok (.idiv, 1) := by decide +kernel
theorem dX11_startsBy_69 : decode (mc mX11_startsBy) 69 = .ok (.goto 5, 3) := by decide +kernel
theorem dX11_startsBy_72 : decode (mc mX11_startsBy) 72 = .ok (.iload 5, 2) := by decide +kernel
theorem dX11_startsBy_74 : decode (mc mX11_startsBy) 74 = .ok (.ireturn, 1) := by decide +kernel
theorem dX11_startsBy_75 : decode (mc mX11_startsBy) 75 = .ok (.iconst 2, 1) := by decide +kernel
theorem dX11_startsBy_76 : decode (mc mX11_startsBy) 76 = .ok (.iload_n 2, 1) := by decide +kernel
theorem dX11_startsBy_77 : decode (mc mX11_startsBy) 77 = .ok (.imul, 1) := by decide +kernel
theorem dX11_startsBy_78 : decode (mc mX11_startsBy) 78 = .ok (.ireturn, 1) := by decide +kernel
theorem dX11_startsBy_79 : decode (mc mX11_startsBy) 79 = .ok (.iload_n 2, 1) := by decide +kernel
theorem dX11_startsBy_80 : decode (mc mX11_startsBy) 80 = .ok (.ireturn, 1) := by decide +kernel
theorem dX11_startsOf_0 : decode (mc mX11_startsOf) 0 = .ok (.aload_n 0, 1) := by decide +kernel
theorem dX11_startsOf_1 : decode (mc mX11_startsOf) 1 = .ok (.iload_n 1, 1) := by decide +kernel
theorem dX11_startsOf_2 : decode (mc mX11_startsOf) 2 = .ok (.iconst 0, 1) := by decide +kernel
theorem dX11_startsOf_3 : decode (mc mX11_startsOf) 3 = .ok (.invokevirtual 130, 3) := by decide +kernel
theorem dX11_startsOf_6 : decode (mc mX11_startsOf) 6 = .ok (.aload_n 0, 1) := by decide +kernel
theorem dX11_startsOf_7 : decode (mc mX11_startsOf) 7 = .ok (.iload_n 1, 1) := by decide +kernel
theorem dX11_startsOf_8 : decode (mc mX11_startsOf) 8 = .ok (.iconst 1, 1) := by decide +kernel
theorem dX11_startsOf_9 : decode (mc mX11_startsOf) 9 = .ok (.invokevirtual 130, 3) := by decide +kernel
theorem dX11_startsOf_12 : decode (mc mX11_startsOf) 12 = .ok (.aload_n 0, 1) := by decide +kernel
theorem dX11_startsOf_13 : decode (mc mX11_startsOf) 13 = .ok (.iload_n 1, 1) := by decide +kernel
theorem dX11_startsOf_14 : decode (mc mX11_startsOf) 14 = .ok (.bipush 6, 2) := by decide +kernel
theorem dX11_startsOf_16 : decode (mc mX11_startsOf) 16 = .ok (.invokevirtual 130, 3) := by decide +kernel
theorem dX11_startsOf_19 : decode (mc mX11_startsOf) 19 = .ok (.iload_n 2, 1) := by decide +kernel
theorem dX11_startsOf_20 : decode (mc mX11_startsOf) 20 = .ok (.invokestatic 145, 3) := by decide +kernel
theorem dX11_startsOf_23 : decode (mc mX11_startsOf) 23 = .ok (.ireturn, 1) := by decide +kernel
theorem dX11_leastOf_0 : decode (mc mX11_leastOf) 0 = .ok (.aload_n 0, 1) := by decide +kernel
theorem dX11_leastOf_1 : decode (mc mX11_leastOf) 1 = .ok (.iload_n 1, 1) := by decide +kernel
theorem dX11_leastOf_2 : decode (mc mX11_leastOf) 2 = .ok (.iconst 0, 1) := by decide +kernel
theorem dX11_leastOf_3 : decode (mc mX11_leastOf) 3 = .ok (.invokevirtual 130, 3) := by decide +kernel
theorem dX11_leastOf_6 : decode (mc mX11_leastOf) 6 = .ok (.iconst 5, 1) := by decide +kernel
theorem dX11_leastOf_7 : decode (mc mX11_leastOf) 7 = .ok (.if_icmp .ne 12, 3) := by decide +kernel
theorem dX11_leastOf_10 : decode (mc mX11_leastOf) 10 = .ok (.aload_n 0, 1) := by decide +kernel
theorem dX11_leastOf_11 : decode (mc mX11_leastOf) 11 = .ok (.iload_n 1, 1) := by decide +kernel
theorem dX11_leastOf_12 : decode (mc mX11_leastOf) 12 = .ok (.iconst 3, 1) := by decide +kernel
theorem dX11_leastOf_13 : decode (mc mX11_leastOf) 13 = .ok (.invokevirtual 130, 3) := by decide +kernel
theorem dX11_leastOf_16 : decode (mc mX11_leastOf) 16 = .ok (.goto 9, 3) := by decide +kernel
theorem dX11_leastOf_19 : decode (mc mX11_leastOf) 19 = .ok (.aload_n 0, 1) := by decide +kernel
theorem dX11_leastOf_20 : decode (mc mX11_leastOf) 20 = .ok (.iload_n 1, 1) := by decide +kernel
theorem dX11_leastOf_21 : decode (mc mX11_leastOf) 21 = .ok (.iconst 2, 1) := by decide +kernel
theorem dX11_leastOf_22 : decode (mc mX11_leastOf) 22 = .ok (.invokevirtual 130, 3) := by decide +kernel
theorem dX11_leastOf_25 : decode (mc mX11_leastOf) 25 = .ok (.ireturn, 1) := by decide +kernel
theorem dX11_mostOf_0 : decode (mc mX11_mostOf) 0 = .ok (.aload_n 0, 1) := by decide +kernel
theorem dX11_mostOf_1 : decode (mc mX11_mostOf) 1 = .ok (.iload_n 1, 1) := by decide +kernel
theorem dX11_mostOf_2 : decode (mc mX11_mostOf) 2 = .ok (.iconst 0, 1) := by decide +kernel
theorem dX11_mostOf_3 : decode (mc mX11_mostOf) 3 = .ok (.invokevirtual 130, 3) := by decide +kernel
theorem dX11_mostOf_6 : decode (mc mX11_mostOf) 6 = .ok (.istore_n 3, 1) := by decide +kernel
theorem dX11_mostOf_7 : decode (mc mX11_mostOf) 7 = .ok (.iload_n 2, 1) := by decide +kernel
theorem dX11_mostOf_8 : decode (mc mX11_mostOf) 8 = .ok (.ifCond .eq 38, 3) := by decide +kernel
theorem dX11_mostOf_11 : decode (mc mX11_mostOf) 11 = .ok (.iload_n 3, 1) := by decide +kernel
theorem dX11_mostOf_12 : decode (mc mX11_mostOf) 12 = .ok (.iconst 2, 1) := by decide +kernel
theorem dX11_mostOf_13 : decode (mc mX11_mostOf) 13 = .ok (.if_icmp .eq 8, 3) := by decide +kernel
theorem dX11_mostOf_16 : decode (mc mX11_mostOf) 16 = .ok (.iload_n 3, 1) := by decide +kernel
theorem dX11_mostOf_17 : decode (mc mX11_mostOf) 17 = .ok (.iconst 3, 1) := by decide +kernel
theorem dX11_mostOf_18 : decode (mc mX11_mostOf) 18 = .ok (.if_icmp .ne 28, 3) := by decide +kernel
theorem dX11_mostOf_21 : decode (mc mX11_mostOf) 21 = .ok (.aload_n 0, 1) := by decide +kernel
theorem dX11_mostOf_22 : decode (mc mX11_mostOf) 22 = .ok (.iload_n 1, 1) := by decide +kernel
theorem dX11_mostOf_23 : decode (mc mX11_mostOf) 23 = .ok (.iconst 3, 1) := by decide +kernel
theorem dX11_mostOf_24 : decode (mc mX11_mostOf) 24 = .ok (.invokevirtual 130, 3) := by decide +kernel
theorem dX11_mostOf_27 : decode (mc mX11_mostOf) 27 = .ok (.aload_n 0, 1) := by decide +kernel
theorem dX11_mostOf_28 : decode (mc mX11_mostOf) 28 = .ok (.iload_n 1, 1) := by decide +kernel
theorem dX11_mostOf_29 : decode (mc mX11_mostOf) 29 = .ok (.iconst 2, 1) := by decide +kernel
theorem dX11_mostOf_30 : decode (mc mX11_mostOf) 30 = .ok (.invokevirtual 130, 3) := by decide +kernel
theorem dX11_mostOf_33 : decode (mc mX11_mostOf) 33 = .ok (.aload_n 0, 1) := by decide +kernel
theorem dX11_mostOf_34 : decode (mc mX11_mostOf) 34 = .ok (.iload_n 1, 1) := by decide +kernel
theorem dX11_mostOf_35 : decode (mc mX11_mostOf) 35 = .ok (.iconst 1, 1) := by decide +kernel
theorem dX11_mostOf_36 : decode (mc mX11_mostOf) 36 = .ok (.invokevirtual 130, 3) := by decide +kernel
theorem dX11_mostOf_39 : decode (mc mX11_mostOf) 39 = .ok (.iadd, 1) := by decide +kernel
theorem dX11_mostOf_40 : decode (mc mX11_mostOf) 40 = .ok (.invokestatic 148, 3) := by decide +kernel
theorem dX11_mostOf_43 : decode (mc mX11_mostOf) 43 = .ok (.goto 9, 3) := by decide +kernel
theorem dX11_mostOf_46 : decode (mc mX11_mostOf) 46 = .ok (.aload_n 0, 1) := by decide +kernel
theorem dX11_mostOf_47 : decode (mc mX11_mostOf) 47 = .ok (.iload_n 1, 1) := by decide +kernel
theorem dX11_mostOf_48 : decode (mc mX11_mostOf) 48 = .ok (.iconst 3, 1) := by decide +kernel
theorem dX11_mostOf_49 : decode (mc mX11_mostOf) 49 = .ok (.invokevirtual 130, 3) := by decide +kernel
theorem dX11_mostOf_52 : decode (mc mX11_mostOf) 52 = .ok (.ireturn, 1) := by decide +kernel
theorem dX11_of_0 : decode (mc mX11_of) 0 = .ok (.aload_n 0, 1) := by decide +kernel
theorem dX11_of_1 : decode (mc mX11_of) 1 = .ok (.iload_n 1, 1) := by decide +kernel
theorem dX11_of_2 : decode (mc mX11_of) 2 = .ok (.invokevirtual 124, 3) := by decide +kernel
theorem dX11_of_5 : decode (mc mX11_of) 5 = .ok (.ifCond .ne 9, 3) := by decide +kernel
theorem dX11_of_8 : decode (mc mX11_of) 8 = .ok (.aload_n 0, 1) := by decide +kernel
theorem dX11_of_9 : decode (mc mX11_of) 9 = .ok (.iconst (-1), 1) := by decide +kernel
theorem dX11_of_10 : decode (mc mX11_of) 10 = .ok (.invokevirtual 79, 3) := by decide +kernel
theorem dX11_of_13 : decode (mc mX11_of) 13 = .ok (.ireturn, 1) := by decide +kernel
theorem dX11_of_14 : decode (mc mX11_of) 14 = .ok (.iload_n 2, 1) := by decide +kernel
theorem dX11_of_15 : decode (mc mX11_of) 15 = .ok (.i2l, 1) := by decide +kernel
theorem dX11_of_16 : decode (mc mX11_of) 16 = .ok (.lconst 0, 1) := by decide +kernel
theorem dX11_of_17 : decode (mc mX11_of) 17 = .ok (.ldc2_w 153, 3) := by decide +kernel
theorem dX11_of_20 : decode (mc mX11_of) 20 = .ok (.invokestatic 89, 3) := by decide +kernel
theorem dX11_of_23 : decode (mc mX11_of) 23 = .ok (.ifCond .ne 10, 3) := by decide +kernel
theorem dX11_of_26 : decode (mc mX11_of) 26 = .ok (.aload_n 0, 1) := by decide +kernel
theorem dX11_of_27 : decode (mc mX11_of) 27 = .ok (.bipush (-2), 2) := by decide +kernel
theorem dX11_of_29 : decode (mc mX11_of) 29 = .ok (.invokevirtual 79, 3) := by decide +kernel
theorem dX11_of_32 : decode (mc mX11_of) 32 = .ok (.ireturn, 1) := by decide +kernel
theorem dX11_of_33 : decode (mc mX11_of) 33 = .ok (.iload_n 2, 1) := by decide +kernel
theorem dX11_of_34 : decode (mc mX11_of) 34 = .ok (.bipush 10, 2) := by decide +kernel
theorem dX11_of_36 : decode (mc mX11_of) 36 = .ok (.if_icmp .ne 11, 3) := by decide +kernel
theorem dX11_of_39 : decode (mc mX11_of) 39 = .ok (.aload_n 0, 1) := by decide +kernel
theorem dX11_of_40 : decode (mc mX11_of) 40 = .ok (.iload_n 1, 1) := by decide +kernel
theorem dX11_of_41 : decode (mc mX11_of) 41 = .ok (.invokevirtual 155, 3) := by decide +kernel
theorem dX11_of_44 : decode (mc mX11_of) 44 = .ok (.goto 37, 3) := by decide +kernel
theorem dX11_of_47 : decode (mc mX11_of) 47 = .ok (.iload_n 2, 1) := by decide +kernel
theorem dX11_of_48 : decode (mc mX11_of) 48 = .ok (.bipush 11, 2) := by decide +kernel
theorem dX11_of_50 : decode (mc mX11_of) 50 = .ok (.if_icmp .ne 12, 3) := by decide +kernel
theorem dX11_of_53 : decode (mc mX11_of) 53 = .ok (.aload_n 0, 1) := by decide +kernel
theorem dX11_of_54 : decode (mc mX11_of) 54 = .ok (.iload_n 1, 1) := by decide +kernel
theorem dX11_of_55 : decode (mc mX11_of) 55 = .ok (.iconst 1, 1) := by decide +kernel
theorem dX11_of_56 : decode (mc mX11_of) 56 = .ok (.invokevirtual 158, 3) := by decide +kernel
theorem dX11_of_59 : decode (mc mX11_of) 59 = .ok (.goto 22, 3) := by decide +kernel
theorem dX11_of_62 : decode (mc mX11_of) 62 = .ok (.aload_n 0, 1) := by decide +kernel
theorem dX11_of_63 : decode (mc mX11_of) 63 = .ok (.iload_n 1, 1) := by decide +kernel
theorem dX11_of_64 : decode (mc mX11_of) 64 = .ok (.iload_n 2, 1) := by decide +kernel
theorem dX11_of_65 : decode (mc mX11_of) 65 = .ok (.invokevirtual 130, 3) := by decide +kernel
theorem dX11_of_68 : decode (mc mX11_of) 68 = .ok (.iload_n 2, 1) := by decide +kernel
theorem dX11_of_69 : decode (mc mX11_of) 69 = .ok (.bipush 9, 2) := by decide +kernel
theorem dX11_of_71 : decode (mc mX11_of) 71 = .ok (.if_icmp .ne 8, 3) := by decide +kernel
theorem dX11_of_74 : decode (mc mX11_of) 74 = .ok (.bipush 10, 2) := by decide +kernel
theorem dX11_of_76 : decode (mc mX11_of) 76 = .ok (.goto 4, 3) := by decide +kernel
theorem dX11_of_79 : decode (mc mX11_of) 79 = .ok (.iconst 0, 1) := by decide +kernel
theorem dX11_of_80 : decode (mc mX11_of) 80 = .ok (.iadd, 1) := by decide +kernel
theorem dX11_of_81 : decode (mc mX11_of) 81 = .ok (.ireturn, 1) := by decide +kernel
theorem dX11_starts_0 : decode (mc mX11_starts) 0 = .ok (.aload_n 0, 1) := by decide +kernel
theorem dX11_starts_1 : decode (mc mX11_starts) 1 = .ok (.iload_n 1, 1) := by decide +kernel
theorem dX11_starts_2 : decode (mc mX11_starts) 2 = .ok (.invokevirtual 124, 3) := by decide +kernel
theorem dX11_starts_5 : decode (mc mX11_starts) 5 = .ok (.ifCond .eq 13, 3) := by decide +kernel
theorem dX11_starts_8 : decode (mc mX11_starts) 8 = .ok (.iload_n 2, 1) := by decide +kernel
theorem dX11_starts_9 : decode (mc mX11_starts) 9 = .ok (.iconst 1, 1) := by decide +kernel
theorem dX11_starts_10 : decode (mc mX11_starts) 10 = .ok (.bipush 9, 2) := by decide +kernel
theorem dX11_starts_12 : decode (mc mX11_starts) 12 = .ok (.invokestatic 93, 3) := by decide +kernel
theorem dX11_starts_15 : decode (mc mX11_starts) 15 = .ok (.goto 4, 3) := by decide +kernel
theorem dX11_starts_18 : decode (mc mX11_starts) 18 = .ok (.iconst (-1), 1) := by decide +kernel
theorem dX11_starts_19 : decode (mc mX11_starts) 19 = .ok (.istore_n 3, 1) := by decide +kernel
theorem dX11_starts_20 : decode (mc mX11_starts) 20 = .ok (.iload_n 3, 1) := by decide +kernel
theorem dX11_starts_21 : decode (mc mX11_starts) 21 = .ok (.ifCond .eq 11, 3) := by decide +kernel
theorem dX11_starts_24 : decode (mc mX11_starts) 24 = .ok (.aload_n 0, 1) := by decide +kernel
theorem dX11_starts_25 : decode (mc mX11_starts) 25 = .ok (.iload_n 3, 1) := by decide +kernel
theorem dX11_starts_26 : decode (mc mX11_starts) 26 = .ok (.invokevirtual 79, 3) := by decide +kernel
theorem dX11_starts_29 : decode (mc mX11_starts) 29 = .ok (.goto 9, 3) := by decide +kernel
theorem dX11_starts_32 : decode (mc mX11_starts) 32 = .ok (.aload_n 0, 1) := by decide +kernel
theorem dX11_starts_33 : decode (mc mX11_starts) 33 = .ok (.iload_n 1, 1) := by decide +kernel
theorem dX11_starts_34 : decode (mc mX11_starts) 34 = .ok (.iload_n 2, 1) := by decide +kernel
theorem dX11_starts_35 : decode (mc mX11_starts) 35 = .ok (.invokevirtual 162, 3) := by decide +kernel
theorem dX11_starts_38 : decode (mc mX11_starts) 38 = .ok (.ireturn, 1) := by decide +kernel
theorem dX11_mayGo_0 : decode (mc mX11_mayGo) 0 = .ok (.iload_n 2, 1) := by decide +kernel
theorem dX11_mayGo_1 : decode (mc mX11_mayGo) 1 = .ok (.ifCond .le 7, 3) := by decide +kernel
theorem dX11_mayGo_4 : decode (mc mX11_mayGo) 4 = .ok (.iconst 1, 1) := by decide +kernel
theorem dX11_mayGo_5 : decode (mc mX11_mayGo) 5 = .ok (.goto 4, 3) := by decide +kernel
theorem dX11_mayGo_8 : decode (mc mX11_mayGo) 8 = .ok (.iconst 0, 1) := by decide +kernel
theorem dX11_mayGo_9 : decode (mc mX11_mayGo) 9 = .ok (.iload_n 3, 1) := by decide +kernel
theorem dX11_mayGo_10 : decode (mc mX11_mayGo) 10 = .ok (.if_icmp .ne 5, 3) := by decide +kernel
theorem dX11_mayGo_13 : decode (mc mX11_mayGo) 13 = .ok (.iconst 1, 1) := by decide +kernel
theorem dX11_mayGo_14 : decode (mc mX11_mayGo) 14 = .ok (.ireturn, 1) := by decide +kernel
theorem dX11_mayGo_15 : decode (mc mX11_mayGo) 15 = .ok (.iload_n 3, 1) := by decide +kernel
theorem dX11_mayGo_16 : decode (mc mX11_mayGo) 16 = .ok (.ifCond .eq 21, 3) := by decide +kernel
theorem dX11_mayGo_19 : decode (mc mX11_mayGo) 19 = .ok (.iload_n 2, 1) := by decide +kernel
theorem dX11_mayGo_20 : decode (mc mX11_mayGo) 20 = .ok (.ineg, 1) := by decide +kernel
theorem dX11_mayGo_21 : decode (mc mX11_mayGo) 21 = .ok (.aload_n 0, 1) := by decide +kernel
theorem dX11_mayGo_22 : decode (mc mX11_mayGo) 22 = .ok (.iload_n 1, 1) := by decide +kernel
theorem dX11_mayGo_23 : decode (mc mX11_mayGo) 23 = .ok (.bipush 8, 2) := by decide +kernel
theorem dX11_mayGo_25 : decode (mc mX11_mayGo) 25 = .ok (.invokevirtual 130, 3) := by decide +kernel
theorem dX11_mayGo_28 : decode (mc mX11_mayGo) 28 = .ok (.if_icmp .lt 7, 3) := by decide +kernel
theorem dX11_mayGo_31 : decode (mc mX11_mayGo) 31 = .ok (.iconst 1, 1) := by decide +kernel
theorem dX11_mayGo_32 : decode (mc mX11_mayGo) 32 = .ok (.goto 4, 3) := by decide +kernel
theorem dX11_mayGo_35 : decode (mc mX11_mayGo) 35 = .ok (.iconst 0, 1) := by decide +kernel
theorem dX11_mayGo_36 : decode (mc mX11_mayGo) 36 = .ok (.ireturn, 1) := by decide +kernel
theorem dX11_mayGo_37 : decode (mc mX11_mayGo) 37 = .ok (.iload_n 2, 1) := by decide +kernel
theorem dX11_mayGo_38 : decode (mc mX11_mayGo) 38 = .ok (.aload_n 0, 1) := by decide +kernel
theorem dX11_mayGo_39 : decode (mc mX11_mayGo) 39 = .ok (.iload_n 1, 1) := by decide +kernel
theorem dX11_mayGo_40 : decode (mc mX11_mayGo) 40 = .ok (.bipush 7, 2) := by decide +kernel
theorem dX11_mayGo_42 : decode (mc mX11_mayGo) 42 = .ok (.invokevirtual 130, 3) := by decide +kernel
theorem dX11_mayGo_45 : decode (mc mX11_mayGo) 45 = .ok (.if_icmp .lt 27, 3) := by decide +kernel
theorem dX11_mayGo_48 : decode (mc mX11_mayGo) 48 = .ok (.aload_n 0, 1) := by decide +kernel
theorem dX11_mayGo_49 : decode (mc mX11_mayGo) 49 = .ok (.iload_n 1, 1) := by decide +kernel
theorem dX11_mayGo_50 : decode (mc mX11_mayGo) 50 = .ok (.iconst 0, 1) := by decide +kernel
theorem dX11_mayGo_51 : decode (mc mX11_mayGo) 51 = .ok (.invokevirtual 130, 3) := by decide +kernel
theorem dX11_mayGo_54 : decode (mc mX11_mayGo) 54 = .ok (.iconst 3, 1) := by decide +kernel
theorem dX11_mayGo_55 : decode (mc mX11_mayGo) 55 = .ok (.if_icmp .eq 17, 3) := by decide +kernel
theorem dX11_mayGo_58 : decode (mc mX11_mayGo) 58 = .ok (.aload_n 0, 1) := by decide +kernel
theorem dX11_mayGo_59 : decode (mc mX11_mayGo) 59 = .ok (.iload_n 1, 1) := by decide +kernel
theorem dX11_mayGo_60 : decode (mc mX11_mayGo) 60 = .ok (.iconst 0, 1) := by decide +kernel
theorem dX11_mayGo_61 : decode (mc mX11_mayGo) 61 = .ok (.invokevirtual 130, 3) := by decide +kernel
theorem dX11_mayGo_64 : decode (mc mX11_mayGo) 64 = .ok (.iconst 5, 1) := by decide +kernel
theorem dX11_mayGo_65 : decode (mc mX11_mayGo) 65 = .ok (.if_icmp .eq 7, 3) := by decide +kernel
theorem dX11_mayGo_68 : decode (mc mX11_mayGo) 68 = .ok (.iconst 1, 1) := by decide +kernel
theorem dX11_mayGo_69 : decode (mc mX11_mayGo) 69 = .ok (.goto 4, 3) := by decide +kernel
theorem dX11_mayGo_72 : decode (mc mX11_mayGo) 72 = .ok (.iconst 0, 1) := by decide +kernel
theorem dX11_mayGo_73 : decode (mc mX11_mayGo) 73 = .ok (.ireturn, 1) := by decide +kernel
theorem dX11_goesOn_0 : decode (mc mX11_goesOn) 0 = .ok (.iload_n 0, 1) := by decide +kernel
theorem dX11_goesOn_1 : decode (mc mX11_goesOn) 1 = .ok (.ifCond .le 7, 3) := by decide +kernel
theorem dX11_goesOn_4 : decode (mc mX11_goesOn) 4 = .ok (.iconst 1, 1) := by decide +kernel
theorem dX11_goesOn_5 : decode (mc mX11_goesOn) 5 = .ok (.goto 4, 3) := by decide +kernel
theorem dX11_goesOn_8 : decode (mc mX11_goesOn) 8 = .ok (.iconst 0, 1) := by decide +kernel
theorem dX11_goesOn_9 : decode (mc mX11_goesOn) 9 = .ok (.iload_n 1, 1) := by decide +kernel
theorem dX11_goesOn_10 : decode (mc mX11_goesOn) 10 = .ok (.if_icmp .ne 17, 3) := by decide +kernel
theorem dX11_goesOn_13 : decode (mc mX11_goesOn) 13 = .ok (.iload_n 0, 1) := by decide +kernel
theorem dX11_goesOn_14 : decode (mc mX11_goesOn) 14 = .ok (.iload_n 1, 1) := by decide +kernel
theorem dX11_goesOn_15 : decode (mc mX11_goesOn) 15 = .ok (.ifCond .eq 7, 3) := by decide +kernel
theorem dX11_goesOn_18 : decode (mc mX11_goesOn) 18 = .ok (.iconst 1, 1) := by decide +kernel
theorem dX11_goesOn_19 : decode (mc mX11_goesOn) 19 = .ok (.goto 4, 3) := by decide +kernel
theorem dX11_goesOn_22 : decode (mc mX11_goesOn) 22 = .ok (.iconst (-1), 1) := by decide +kernel
theorem dX11_goesOn_23 : decode (mc mX11_goesOn) 23 = .ok (.iadd, 1) := by decide +kernel
theorem dX11_goesOn_24 : decode (mc mX11_goesOn) 24 = .ok (.goto 12, 3) := by decide +kernel
theorem dX11_goesOn_27 : decode (mc mX11_goesOn) 27 = .ok (.iload_n 1, 1) := by decide +kernel
theorem dX11_goesOn_28 : decode (mc mX11_goesOn) 28 = .ok (.ifCond .eq 7, 3) := by decide +kernel
theorem dX11_goesOn_31 : decode (mc mX11_goesOn) 31 = .ok (.iconst 1, 1) := by decide +kernel
theorem dX11_goesOn_32 : decode (mc mX11_goesOn) 32 = .ok (.goto 4, 3) := by decide +kernel
theorem dX11_goesOn_35 : decode (mc mX11_goesOn) 35 = .ok (.iconst (-1), 1) := by decide +kernel
theorem dX11_goesOn_36 : decode (mc mX11_goesOn) 36 = .ok (.ireturn, 1) := by decide +kernel
theorem dX11_isLawful_0 : decode (mc mX11_isLawful) 0 = .ok (.aload_n 0, 1) := by decide +kernel
theorem dX11_isLawful_1 : decode (mc mX11_isLawful) 1 = .ok (.iload_n 1, 1) := by decide +kernel
theorem dX11_isLawful_2 : decode (mc mX11_isLawful) 2 = .ok (.bipush 9, 2) := by decide +kernel
theorem dX11_isLawful_4 : decode (mc mX11_isLawful) 4 = .ok (.invokevirtual 130, 3) := by decide +kernel
theorem dX11_isLawful_7 : decode (mc mX11_isLawful) 7 = .ok (.istore_n 3, 1) := by decide +kernel
theorem dX11_isLawful_8 : decode (mc mX11_isLawful) 8 = .ok (.iconst 0, 1) := by decide +kernel
theorem dX11_isLawful_9 : decode (mc mX11_isLawful) 9 = .ok (.istore 4, 2) := by decide +kernel
theorem dX11_isLawful_11 : decode (mc mX11_isLawful) 11 = .ok (.iload 4, 2) := by decide +kernel
theorem dX11_isLawful_13 : decode (mc mX11_isLawful) 13 = .ok (.aload_n 0, 1) := by decide +kernel
theorem dX11_isLawful_14 : decode (mc mX11_isLawful) 14 = .ok (.getfield 9, 3) := by decide +kernel
theorem dX11_isLawful_17 : decode (mc mX11_isLawful) 17 = .ok (.iconst 0, 1) := by decide +kernel
theorem dX11_isLawful_18 : decode (mc mX11_isLawful) 18 = .ok (.iaload, 1) := by decide +kernel
theorem dX11_isLawful_19 : decode (mc mX11_isLawful) 19 = .ok (.if_icmp .ge 37, 3) := by decide +kernel
theorem dX11_isLawful_22 : decode (mc mX11_isLawful) 22 = .ok (.aload_n 0, 1) := by decide +kernel
theorem dX11_isLawful_23 : decode (mc mX11_isLawful) 23 = .ok (.iload_n 1, 1) := by decide +kernel
theorem dX11_isLawful_24 : decode (mc mX11_isLawful) 24 = .ok (.iload_n 3, 1) := by decide +kernel
theorem dX11_isLawful_25 : decode (mc mX11_isLawful) 25 = .ok (.iload_n 2, 1) := by decide +kernel
theorem dX11_isLawful_26 : decode (mc mX11_isLawful) 26 = .ok (.iload 4, 2) := by decide +kernel
theorem dX11_isLawful_28 : decode (mc mX11_isLawful) 28 = .ok (.invokestatic 165, 3) := by decide +kernel
theorem dX11_isLawful_31 : decode (mc mX11_isLawful) 31 = .ok (.invokevirtual 169, 3) := by decide +kernel
theorem dX11_isLawful_34 : decode (mc mX11_isLawful) 34 = .ok (.ifCond .ne 5, 3) := by decide +kernel
theorem dX11_isLawful_37 : decode (mc mX11_isLawful) 37 = .ok (.iconst 0, 1) := by decide +kernel
theorem dX11_isLawful_38 : decode (mc mX11_isLawful) 38 = .ok (.ireturn, 1) := by decide +kernel
theorem dX11_isLawful_39 : decode (mc mX11_isLawful) 39 = .ok (.iload_n 3, 1) := by decide +kernel
theorem dX11_isLawful_40 : decode (mc mX11_isLawful) 40 = .ok (.iload_n 2, 1) := by decide +kernel
theorem dX11_isLawful_41 : decode (mc mX11_isLawful) 41 = .ok (.iload 4, 2) := by decide +kernel
theorem dX11_isLawful_43 : decode (mc mX11_isLawful) 43 = .ok (.invokestatic 165, 3) := by decide +kernel
theorem dX11_isLawful_46 : decode (mc mX11_isLawful) 46 = .ok (.invokestatic 173, 3) := by decide +kernel
theorem dX11_isLawful_49 : decode (mc mX11_isLawful) 49 = .ok (.istore_n 3, 1) := by decide +kernel
theorem dX11_isLawful_50 : decode (mc mX11_isLawful) 50 = .ok (.iinc 4 1, 3) := by decide +kernel
theorem dX11_isLawful_53 : decode (mc mX11_isLawful) 53 = .ok (.goto (-42), 3) := by decide +kernel
theorem dX11_isLawful_56 : decode (mc mX11_isLawful) 56 = .ok (.iconst 1, 1) := by decide +kernel
theorem dX11_isLawful_57 : decode (mc mX11_isLawful) 57 = .ok (.ireturn, 1) := by decide +kernel
theorem dX11_lawful_0 : decode (mc mX11_lawful) 0 = .ok (.aload_n 0, 1) := by decide +kernel
theorem dX11_lawful_1 : decode (mc mX11_lawful) 1 = .ok (.iload_n 1, 1) := by decide +kernel
theorem dX11_lawful_2 : decode (mc mX11_lawful) 2 = .ok (.invokevirtual 124, 3) := by decide +kernel
theorem dX11_lawful_5 : decode (mc mX11_lawful) 5 = .ok (.ifCond .eq 21, 3) := by decide +kernel
theorem dX11_lawful_8 : decode (mc mX11_lawful) 8 = .ok (.iload_n 2, 1) := by decide +kernel
theorem dX11_lawful_9 : decode (mc mX11_lawful) 9 = .ok (.iconst 0, 1) := by decide +kernel
theorem dX11_lawful_10 : decode (mc mX11_lawful) 10 = .ok (.iconst 1, 1) := by decide +kernel
theorem dX11_lawful_11 : decode (mc mX11_lawful) 11 = .ok (.aload_n 0, 1) := by decide +kernel
theorem dX11_lawful_12 : decode (mc mX11_lawful) 12 = .ok (.getfield 9, 3) := by decide +kernel
theorem dX11_lawful_15 : decode (mc mX11_lawful) 15 = .ok (.iconst 0, 1) := by decide +kernel
theorem dX11_lawful_16 : decode (mc mX11_lawful) 16 = .ok (.iaload, 1) := by decide +kernel
theorem dX11_lawful_17 : decode (mc mX11_lawful) 17 = .ok (.ishl, 1) := by decide +kernel
theorem dX11_lawful_18 : decode (mc mX11_lawful) 18 = .ok (.iconst 1, 1) := by decide +kernel
theorem dX11_lawful_19 : decode (mc mX11_lawful) 19 = .ok (.isub, 1) := by decide +kernel
theorem dX11_lawful_20 : decode (mc mX11_lawful) 20 = .ok (.invokestatic 93, 3) := by decide +kernel
theorem dX11_lawful_23 : decode (mc mX11_lawful) 23 = .ok (.goto 4, 3) := by decide +kernel
theorem dX11_lawful_26 : decode (mc mX11_lawful) 26 = .ok (.iconst (-1), 1) := by decide +kernel
theorem dX11_lawful_27 : decode (mc mX11_lawful) 27 = .ok (.istore_n 3, 1) := by decide +kernel
theorem dX11_lawful_28 : decode (mc mX11_lawful) 28 = .ok (.iload_n 3, 1) := by decide +kernel
theorem dX11_lawful_29 : decode (mc mX11_lawful) 29 = .ok (.ifCond .eq 11, 3) := by decide +kernel
theorem dX11_lawful_32 : decode (mc mX11_lawful) 32 = .ok (.aload_n 0, 1) := by decide +kernel
theorem dX11_lawful_33 : decode (mc mX11_lawful) 33 = .ok (.iload_n 3, 1) := by decide +kernel
theorem dX11_lawful_34 : decode (mc mX11_lawful) 34 = .ok (.invokevirtual 79, 3) := by decide +kernel
theorem dX11_lawful_37 : decode (mc mX11_lawful) 37 = .ok (.goto 17, 3) := by decide +kernel
theorem dX11_lawful_40 : decode (mc mX11_lawful) 40 = .ok (.aload_n 0, 1) := by decide +kernel
theorem dX11_lawful_41 : decode (mc mX11_lawful) 41 = .ok (.iload_n 1, 1) := by decide +kernel
theorem dX11_lawful_42 : decode (mc mX11_lawful) 42 = .ok (.iload_n 2, 1) := by decide +kernel
theorem dX11_lawful_43 : decode (mc mX11_lawful) 43 = .ok (.invokevirtual 176, 3) := by decide +kernel
theorem dX11_lawful_46 : decode (mc mX11_lawful) 46 = .ok (.ifCond .eq 7, 3) := by decide +kernel
theorem dX11_lawful_49 : decode (mc mX11_lawful) 49 = .ok (.iconst 1, 1) := by decide +kernel
theorem dX11_lawful_50 : decode (mc mX11_lawful) 50 = .ok (.goto 4, 3) := by decide +kernel
theorem dX11_lawful_53 : decode (mc mX11_lawful) 53 = .ok (.iconst 0, 1) := by decide +kernel
theorem dX11_lawful_54 : decode (mc mX11_lawful) 54 = .ok (.ireturn, 1) := by decide +kernel
theorem dX11_rows_0 : decode (mc mX11_rows) 0 = .ok (.aload_n 0, 1) := by decide +kernel
theorem dX11_rows_1 : decode (mc mX11_rows) 1 = .ok (.iload_n 1, 1) := by decide +kernel
theorem dX11_rows_2 : decode (mc mX11_rows) 2 = .ok (.invokevirtual 124, 3) := by decide +kernel
theorem dX11_rows_5 : decode (mc mX11_rows) 5 = .ok (.ifCond .ne 9, 3) := by decide +kernel
theorem dX11_rows_8 : decode (mc mX11_rows) 8 = .ok (.aload_n 0, 1) := by decide +kernel
theorem dX11_rows_9 : decode (mc mX11_rows) 9 = .ok (.iconst (-1), 1) := by decide +kernel
theorem dX11_rows_10 : decode (mc mX11_rows) 10 = .ok (.invokevirtual 79, 3) := by decide +kernel
theorem dX11_rows_13 : decode (mc mX11_rows) 13 = .ok (.ireturn, 1) := by decide +kernel
theorem dX11_rows_14 : decode (mc mX11_rows) 14 = .ok (.iconst 0, 1) := by decide +kernel
theorem dX11_rows_15 : decode (mc mX11_rows) 15 = .ok (.istore_n 3, 1) := by decide +kernel
theorem dX11_rows_16 : decode (mc mX11_rows) 16 = .ok (.iconst 0, 1) := by decide +kernel
theorem dX11_rows_17 : decode (mc mX11_rows) 17 = .ok (.istore 4, 2) := by decide +kernel
theorem dX11_rows_19 : decode (mc mX11_rows) 19 = .ok (.iload 4, 2) := by decide +kernel
theorem dX11_rows_21 : decode (mc mX11_rows) 21 = .ok (.iconst 1, 1) := by decide +kernel
theorem dX11_rows_22 : decode (mc mX11_rows) 22 = .ok (.aload_n 0, 1) := by decide +kernel
theorem dX11_rows_23 : decode (mc mX11_rows) 23 = .ok (.getfield 9, 3) := by decide +kernel
theorem dX11_rows_26 : decode (mc mX11_rows) 26 = .ok (.iconst 0, 1) := by decide +kernel
theorem dX11_rows_27 : decode (mc mX11_rows) 27 = .ok (.iaload, 1) := by decide +kernel
theorem dX11_rows_28 : decode (mc mX11_rows) 28 = .ok (.ishl, 1) := by decide +kernel
theorem dX11_rows_29 : decode (mc mX11_rows) 29 = .ok (.if_icmp .ge 30, 3) := by decide +kernel
theorem dX11_rows_32 : decode (mc mX11_rows) 32 = .ok (.aload_n 0, 1) := by decide +kernel
theorem dX11_rows_33 : decode (mc mX11_rows) 33 = .ok (.iload_n 1, 1) := by decide +kernel
theorem dX11_rows_34 : decode (mc mX11_rows) 34 = .ok (.iload 4, 2) := by decide +kernel
theorem dX11_rows_36 : decode (mc mX11_rows) 36 = .ok (.invokevirtual 176, 3) := by decide +kernel
theorem dX11_rows_39 : decode (mc mX11_rows) 39 = .ok (.ifCond .eq 14, 3) := by decide +kernel
theorem dX11_rows_42 : decode (mc mX11_rows) 42 = .ok (.iload_n 3, 1) := by decide +kernel
theorem dX11_rows_43 : decode (mc mX11_rows) 43 = .ok (.iload_n 2, 1) := by decide +kernel
theorem dX11_rows_44 : decode (mc mX11_rows) 44 = .ok (.if_icmp .ne 6, 3) := by decide +kernel
theorem dX11_rows_47 : decode (mc mX11_rows) 47 = .ok (.iload 4, 2) := by decide +kernel
theorem dX11_rows_49 : decode (mc mX11_rows) 49 = .ok (.ireturn, 1) := by decide +kernel
theorem dX11_rows_50 : decode (mc mX11_rows) 50 = .ok (.iinc 3 1, 3) := by decide +kernel
theorem dX11_rows_53 : decode (mc mX11_rows) 53 = .ok (.iinc 4 1, 3) := by decide +kernel
theorem dX11_rows_56 : decode (mc mX11_rows) 56 = .ok (.goto (-37), 3) := by decide +kernel
theorem dX11_rows_59 : decode (mc mX11_rows) 59 = .ok (.iload_n 2, 1) := by decide +kernel
theorem dX11_rows_60 : decode (mc mX11_rows) 60 = .ok (.iconst (-1), 1) := by decide +kernel
theorem dX11_rows_61 : decode (mc mX11_rows) 61 = .ok (.if_icmp .ne 7, 3) := by decide +kernel
theorem dX11_rows_64 : decode (mc mX11_rows) 64 = .ok (.iload_n 3, 1) := by decide +kernel
theorem dX11_rows_65 : decode (mc mX11_rows) 65 = .ok (.goto 9, 3) := by decide +kernel
theorem dX11_rows_68 : decode (mc mX11_rows) 68 = .ok (.aload_n 0, 1) := by decide +kernel
theorem dX11_rows_69 : decode (mc mX11_rows) 69 = .ok (.bipush (-3), 2) := by decide +kernel
theorem dX11_rows_71 : decode (mc mX11_rows) 71 = .ok (.invokevirtual 79, 3) := by decide +kernel
theorem dX11_rows_74 : decode (mc mX11_rows) 74 = .ok (.ireturn, 1) := by decide +kernel
theorem dX11_canDo_0 : decode (mc mX11_canDo) 0 = .ok (.iconst 0, 1) := by decide +kernel
theorem dX11_canDo_1 : decode (mc mX11_canDo) 1 = .ok (.istore 4, 2) := by decide +kernel
theorem dX11_canDo_3 : decode (mc mX11_canDo) 3 = .ok (.iconst 0, 1) := by decide +kernel
theorem dX11_canDo_4 : decode (mc mX11_canDo) 4 = .ok (.istore 5, 2) := by decide +kernel
theorem dX11_canDo_6 : decode (mc mX11_canDo) 6 = .ok (.iconst 0, 1) := by decide +kernel
theorem dX11_canDo_7 : decode (mc mX11_canDo) 7 = .ok (.istore 6, 2) := by decide +kernel
theorem dX11_canDo_9 : decode (mc mX11_canDo) 9 = .ok (.iload 6, 2) := by decide +kernel
theorem dX11_canDo_11 : decode (mc mX11_canDo) 11 = .ok (.aload_n 0, 1) := by decide +kernel
theorem dX11_canDo_12 : decode (mc mX11_canDo) 12 = .ok (.getfield 9, 3) := by decide +kernel
theorem dX11_canDo_15 : decode (mc mX11_canDo) 15 = .ok (.iconst 3, 1) := by decide +kernel
theorem dX11_canDo_16 : decode (mc mX11_canDo) 16 = .ok (.iaload, 1) := by decide +kernel
theorem dX11_canDo_17 : decode (mc mX11_canDo) 17 = .ok (.if_icmp .ge 46, 3) := by decide +kernel
theorem dX11_canDo_20 : decode (mc mX11_canDo) 20 = .ok (.iload_n 2, 1) := by decide +kernel
theorem dX11_canDo_21 : decode (mc mX11_canDo) 21 = .ok (.iload 6, 2) := by decide +kernel
theorem dX11_canDo_23 : decode (mc mX11_canDo) 23 = .ok (.invokestatic 165, 3) := by decide +kernel
theorem dX11_canDo_26 : decode (mc mX11_canDo) 26 = .ok (.ifCond .eq 31, 3) := by decide +kernel
theorem dX11_canDo_29 : decode (mc mX11_canDo) 29 = .ok (.iload 4, 2) := by decide +kernel
theorem dX11_canDo_31 : decode (mc mX11_canDo) 31 = .ok (.aload_n 0, 1) := by decide +kernel
theorem dX11_canDo_32 : decode (mc mX11_canDo) 32 = .ok (.iload 6, 2) := by decide +kernel
theorem dX11_canDo_34 : decode (mc mX11_canDo) 34 = .ok (.invokevirtual 155, 3) := by decide +kernel
theorem dX11_canDo_37 : decode (mc mX11_canDo) 37 = .ok (.iadd, 1) := by decide +kernel
theorem dX11_canDo_38 : decode (mc mX11_canDo) 38 = .ok (.istore 4, 2) := by decide +kernel
theorem dX11_canDo_40 : decode (mc mX11_canDo) 40 = .ok (.iload 5, 2) := by decide +kernel
theorem dX11_canDo_42 : decode (mc mX11_canDo) 42 = .ok (.aload_n 0, 1) := by decide +kernel
theorem dX11_canDo_43 : decode (mc mX11_canDo) 43 = .ok (.iload 6, 2) := by decide +kernel
theorem dX11_canDo_45 : decode (mc mX11_canDo) 45 = .ok (.iload_n 3, 1) := by decide +kernel
theorem dX11_canDo_46 : decode (mc mX11_canDo) 46 = .ok (.iload 6, 2) := by decide +kernel
theorem dX11_canDo_48 : decode (mc mX11_canDo) 48 = .ok (.invokestatic 165, 3) := by decide +kernel
theorem dX11_canDo_51 : decode (mc mX11_canDo) 51 = .ok (.invokevirtual 158, 3) := by decide +kernel
theorem dX11_canDo_54 : decode (mc mX11_canDo) 54 = .ok (.iadd, 1) := by decide +kernel
theorem dX11_canDo_55 : decode (mc mX11_canDo) 55 = .ok (.istore 5, 2) := by decide +kernel
theorem dX11_canDo_57 : decode (mc mX11_canDo) 57 = .ok (.iinc 6 1, 3) := by decide +kernel
theorem dX11_canDo_60 : decode (mc mX11_canDo) 60 = .ok (.goto (-51), 3) := by decide +kernel
theorem dX11_canDo_63 : decode (mc mX11_canDo) 63 = .ok (.iload 4, 2) := by decide +kernel
theorem dX11_canDo_65 : decode (mc mX11_canDo) 65 = .ok (.aload_n 0, 1) := by decide +kernel
theorem dX11_canDo_66 : decode (mc mX11_canDo) 66 = .ok (.getfield 9, 3) := by decide +kernel
theorem dX11_canDo_69 : decode (mc mX11_canDo) 69 = .ok (.iconst 4, 1) := by decide +kernel
theorem dX11_canDo_70 : decode (mc mX11_canDo) 70 = .ok (.iload_n 1, 1) := by decide +kernel
theorem dX11_canDo_71 : decode (mc mX11_canDo) 71 = .ok (.iadd, 1) := by decide +kernel
theorem dX11_canDo_72 : decode (mc mX11_canDo) 72 = .ok (.iaload, 1) := by decide +kernel
theorem dX11_canDo_73 : decode (mc mX11_canDo) 73 = .ok (.if_icmp .gt 30, 3) := by decide +kernel
theorem dX11_canDo_76 : decode (mc mX11_canDo) 76 = .ok (.iload 5, 2) := by decide +kernel
theorem dX11_canDo_78 : decode (mc mX11_canDo) 78 = .ok (.aload_n 0, 1) := by decide +kernel
theorem dX11_canDo_79 : decode (mc mX11_canDo) 79 = .ok (.getfield 9, 3) := by decide +kernel
theorem dX11_canDo_82 : decode (mc mX11_canDo) 82 = .ok (.iconst 4, 1) := by decide +kernel
theorem dX11_canDo_83 : decode (mc mX11_canDo) 83 = .ok (.iload_n 1, 1) := by decide +kernel
theorem dX11_canDo_84 : decode (mc mX11_canDo) 84 = .ok (.iadd, 1) := by decide +kernel
theorem dX11_canDo_85 : decode (mc mX11_canDo) 85 = .ok (.iaload, 1) := by decide +kernel
theorem dX11_canDo_86 : decode (mc mX11_canDo) 86 = .ok (.aload_n 0, 1) := by decide +kernel
theorem dX11_canDo_87 : decode (mc mX11_canDo) 87 = .ok (.getfield 9, 3) := by decide +kernel
theorem dX11_canDo_90 : decode (mc mX11_canDo) 90 = .ok (.bipush 9, 2) := by decide +kernel
theorem dX11_canDo_92 : decode (mc mX11_canDo) 92 = .ok (.iload_n 1, 1) := by decide +kernel
theorem dX11_canDo_93 : decode (mc mX11_canDo) 93 = .ok (.iadd, 1) := by decide +kernel
theorem dX11_canDo_94 : decode (mc mX11_canDo) 94 = .ok (.iaload, 1) := by decide +kernel
theorem dX11_canDo_95 : decode (mc mX11_canDo) 95 = .ok (.iadd, 1) := by decide +kernel
theorem dX11_canDo_96 : decode (mc mX11_canDo) 96 = .ok (.if_icmp .lt 7, 3) := by decide +kernel
theorem dX11_canDo_99 : decode (mc mX11_canDo) 99 = .ok (.iconst 1, 1) := by decide +kernel
theorem dX11_canDo_100 : decode (mc mX11_canDo) 100 = .ok (.goto 4, 3) := by decide +kernel
theorem dX11_canDo_103 : decode (mc mX11_canDo) 103 = .ok (.iconst 0, 1) := by decide +kernel
theorem dX11_canDo_104 : decode (mc mX11_canDo) 104 = .ok (.ireturn, 1) := by decide +kernel
theorem dX11_isAhead_0 : decode (mc mX11_isAhead) 0 = .ok (.aload_n 0, 1) := by decide +kernel
theorem dX11_isAhead_1 : decode (mc mX11_isAhead) 1 = .ok (.getfield 9, 3) := by decide +kernel
theorem dX11_isAhead_4 : decode (mc mX11_isAhead) 4 = .ok (.iconst 1, 1) := by decide +kernel
theorem dX11_isAhead_5 : decode (mc mX11_isAhead) 5 = .ok (.iaload, 1) := by decide +kernel
theorem dX11_isAhead_6 : decode (mc mX11_isAhead) 6 = .ok (.ifCond .ne 19, 3) := by decide +kernel
theorem dX11_isAhead_9 : decode (mc mX11_isAhead) 9 = .ok (.aload_n 0, 1) := by decide +kernel
theorem dX11_isAhead_10 : decode (mc mX11_isAhead) 10 = .ok (.iload_n 1, 1) := by decide +kernel
theorem dX11_isAhead_11 : decode (mc mX11_isAhead) 11 = .ok (.iconst 4, 1) := by decide +kernel
theorem dX11_isAhead_12 : decode (mc mX11_isAhead) 12 = .ok (.invokevirtual 130, 3) := by decide +kernel
theorem dX11_isAhead_15 : decode (mc mX11_isAhead) 15 = .ok (.aload_n 0, 1) := by decide +kernel
theorem dX11_isAhead_16 : decode (mc mX11_isAhead) 16 = .ok (.iload_n 2, 1) := by decide +kernel
theorem dX11_isAhead_17 : decode (mc mX11_isAhead) 17 = .ok (.iconst 4, 1) := by decide +kernel
theorem dX11_isAhead_18 : decode (mc mX11_isAhead) 18 = .ok (.invokevirtual 130, 3) := by decide +kernel
theorem dX11_isAhead_21 : decode (mc mX11_isAhead) 21 = .ok (.isub, 1) := by decide +kernel
theorem dX11_isAhead_22 : decode (mc mX11_isAhead) 22 = .ok (.goto 30, 3) := by decide +kernel
theorem dX11_isAhead_25 : decode (mc mX11_isAhead) 25 = .ok (.aload_n 0, 1) := by decide +kernel
theorem dX11_isAhead_26 : decode (mc mX11_isAhead) 26 = .ok (.getfield 9, 3) := by decide +kernel
theorem dX11_isAhead_29 : decode (mc mX11_isAhead) 29 = .ok (.iconst 1, 1) := by decide +kernel
theorem dX11_isAhead_30 : decode (mc mX11_isAhead) 30 = .ok (.iaload, 1) := by decide +kernel
theorem dX11_isAhead_31 : decode (mc mX11_isAhead) 31 = .ok (.iconst 1, 1) := by decide +kernel
theorem dX11_isAhead_32 : decode (mc mX11_isAhead) 32 = .ok (.if_icmp .ne 19, 3) := by decide +kernel
theorem dX11_isAhead_35 : decode (mc mX11_isAhead) 35 = .ok (.aload_n 0, 1) := by decide +kernel
theorem dX11_isAhead_36 : decode (mc mX11_isAhead) 36 = .ok (.iload_n 2, 1) := by decide +kernel
theorem dX11_isAhead_37 : decode (mc mX11_isAhead) 37 = .ok (.iconst 3, 1) := by decide +kernel
theorem dX11_isAhead_38 : decode (mc mX11_isAhead) 38 = .ok (.invokevirtual 130, 3) := by decide +kernel
theorem dX11_isAhead_41 : decode (mc mX11_isAhead) 41 = .ok (.aload_n 0, 1) := by decide +kernel
theorem dX11_isAhead_42 : decode (mc mX11_isAhead) 42 = .ok (.iload_n 1, 1) := by decide +kernel
theorem dX11_isAhead_43 : decode (mc mX11_isAhead) 43 = .ok (.iconst 3, 1) := by decide +kernel
theorem dX11_isAhead_44 : decode (mc mX11_isAhead) 44 = .ok (.invokevirtual 130, 3) := by decide +kernel
theorem dX11_isAhead_47 : decode (mc mX11_isAhead) 47 = .ok (.isub, 1) := by decide +kernel
theorem dX11_isAhead_48 : decode (mc mX11_isAhead) 48 = .ok (.goto 4, 3) := by decide +kernel
theorem dX11_isAhead_51 : decode (mc mX11_isAhead) 51 = .ok (.iconst 0, 1) := by decide +kernel
theorem dX11_isAhead_52 : decode (mc mX11_isAhead) 52 = .ok (.istore_n 3, 1) := by decide +kernel
theorem dX11_isAhead_53 : decode (mc mX11_isAhead) 53 = .ok (.iload_n 3, 1) := by decide +kernel
theorem dX11_isAhead_54 : decode (mc mX11_isAhead) 54 = .ok (.ifCond .lt 12, 3) := by decide +kernel
theorem dX11_isAhead_57 : decode (mc mX11_isAhead) 57 = .ok (.iload_n 3, 1) := by decide +kernel
theorem dX11_isAhead_58 : decode (mc mX11_isAhead) 58 = .ok (.ifCond .ne 12, 3) := by decide +kernel
theorem dX11_isAhead_61 : decode (mc mX11_isAhead) 61 = .ok (.iload_n 1, 1) := by decide +kernel
theorem dX11_isAhead_62 : decode (mc mX11_isAhead) 62 = .ok (.iload_n 2, 1) := by decide +kernel
theorem dX11_isAhead_63 : decode (mc mX11_isAhead) 63 = .ok (.if_icmp .ge 7, 3) := by decide +kernel
theorem dX11_isAhead_66 : decode (mc mX11_isAhead) 66 = .ok (.iconst 1, 1) := by decide +kernel
theorem dX11_isAhead_67 : decode (mc mX11_isAhead) 67 = .ok (.goto 4, 3) := by decide +kernel
theorem dX11_isAhead_70 : decode (mc mX11_isAhead) 70 = .ok (.iconst 0, 1) := by decide +kernel
theorem dX11_isAhead_71 : decode (mc mX11_isAhead) 71 = .ok (.ireturn, 1) := by decide +kernel
theorem dX11_byMerit_0 : decode (mc mX11_byMerit) 0 = .ok (.iconst 0, 1) := by decide +kernel
theorem dX11_byMerit_1 : decode (mc mX11_byMerit) 1 = .ok (.istore_n 2, 1) := by decide +kernel
theorem dX11_byMerit_2 : decode (mc mX11_byMerit) 2 = .ok (.iload_n 2, 1) := by decide +kernel
theorem dX11_byMerit_3 : decode (mc mX11_byMerit) 3 = .ok (.aload_n 0, 1) := by decide +kernel
theorem dX11_byMerit_4 : decode (mc mX11_byMerit) 4 = .ok (.getfield 9, 3) := by decide +kernel
theorem dX11_byMerit_7 : decode (mc mX11_byMerit) 7 = .ok (.iconst 3, 1) := by decide +kernel
theorem dX11_byMerit_8 : decode (mc mX11_byMerit) 8 = .ok (.iaload, 1) := by decide +kernel
theorem dX11_byMerit_9 : decode (mc mX11_byMerit) 9 = .ok (.if_icmp .ge 56, 3) := by decide +kernel
theorem dX11_byMerit_12 : decode (mc mX11_byMerit) 12 = .ok (.iconst 0, 1) := by decide +kernel
theorem dX11_byMerit_13 : decode (mc mX11_byMerit) 13 = .ok (.istore_n 3, 1) := by decide +kernel
theorem dX11_byMerit_14 : decode (mc mX11_byMerit) 14 = .ok (.iconst 0, 1) := by decide +kernel
theorem dX11_byMerit_15 : decode (mc mX11_byMerit) 15 = .ok (.istore 4, 2) := by decide +kernel
theorem dX11_byMerit_17 : decode (mc mX11_byMerit) 17 = .ok (.iload 4, 2) := by decide +kernel
theorem dX11_byMerit_19 : decode (mc mX11_byMerit) 19 = .ok (.aload_n 0, 1) := by decide +kernel
theorem dX11_byMerit_20 : decode (mc mX11_byMerit) 20 = .ok (.getfield 9, 3) := by decide +kernel
theorem dX11_byMerit_23 : decode (mc mX11_byMerit) 23 = .ok (.iconst 3, 1) := by decide +kernel
theorem dX11_byMerit_24 : decode (mc mX11_byMerit) 24 = .ok (.iaload, 1) := by decide +kernel
theorem dX11_byMerit_25 : decode (mc mX11_byMerit) 25 = .ok (.if_icmp .ge 27, 3) := by decide +kernel
theorem dX11_byMerit_28 : decode (mc mX11_byMerit) 28 = .ok (.iload_n 3, 1) := by decide +kernel
theorem dX11_byMerit_29 : decode (mc mX11_byMerit) 29 = .ok (.aload_n 0, 1) := by decide +kernel
theorem dX11_byMerit_30 : decode (mc mX11_byMerit) 30 = .ok (.iload 4, 2) := by decide +kernel
theorem dX11_byMerit_32 : decode (mc mX11_byMerit) 32 = .ok (.iload_n 2, 1) := by decide +kernel
theorem dX11_byMerit_33 : decode (mc mX11_byMerit) 33 = .ok (.invokevirtual 179, 3) := by decide +kernel
theorem dX11_byMerit_36 : decode (mc mX11_byMerit) 36 = .ok (.ifCond .eq 7, 3) := by decide +kernel
theorem dX11_byMerit_39 : decode (mc mX11_byMerit) 39 = .ok (.iconst 1, 1) := by decide +kernel
theorem dX11_byMerit_40 : decode (mc mX11_byMerit) 40 = .ok (.goto 4, 3) := by decide +kernel
theorem dX11_byMerit_43 : decode (mc mX11_byMerit) 43 = .ok (.iconst 0, 1) := by decide +kernel
theorem dX11_byMerit_44 : decode (mc mX11_byMerit) 44 = .ok (.iadd, 1) := by decide +kernel
theorem dX11_byMerit_45 : decode (mc mX11_byMerit) 45 = .ok (.istore_n 3, 1) := by decide +kernel
theorem dX11_byMerit_46 : decode (mc mX11_byMerit) 46 = .ok (.iinc 4 1, 3) := by decide +kernel
theorem dX11_byMerit_49 : decode (mc mX11_byMerit) 49 = .ok (.goto (-32), 3) := by decide +kernel
theorem dX11_byMerit_52 : decode (mc mX11_byMerit) 52 = .ok (.iload_n 3, 1) := by decide +kernel
theorem dX11_byMerit_53 : decode (mc mX11_byMerit) 53 = .ok (.iload_n 1, 1) := by decide +kernel
theorem dX11_byMerit_54 : decode (mc mX11_byMerit) 54 = .ok (.if_icmp .ne 5, 3) := by decide +kernel
theorem dX11_byMerit_57 : decode (mc mX11_byMerit) 57 = .ok (.iload_n 2, 1) := by decide +kernel
theorem dX11_byMerit_58 : decode (mc mX11_byMerit) 58 = .ok (.ireturn, 1) := by decide +kernel
theorem dX11_byMerit_59 : decode (mc mX11_byMerit) 59 = .ok (.iinc 2 1, 3) := by decide +kernel
theorem dX11_byMerit_62 : decode (mc mX11_byMerit) 62 = .ok (.goto (-60), 3) := by decide +kernel
theorem dX11_byMerit_65 : decode (mc mX11_byMerit) 65 = .ok (.iconst 0, 1) := by decide +kernel
theorem dX11_byMerit_66 : decode (mc mX11_byMerit) 66 = .ok (.ireturn, 1) := by decide +kernel
theorem dX11_shares_0 : decode (mc mX11_shares) 0 = .ok (.aload_n 0, 1) := by decide +kernel
theorem dX11_shares_1 : decode (mc mX11_shares) 1 = .ok (.getfield 9, 3) := by decide +kernel
theorem dX11_shares_4 : decode (mc mX11_shares) 4 = .ok (.iconst 4, 1) := by decide +kernel
theorem dX11_shares_5 : decode (mc mX11_shares) 5 = .ok (.iload_n 1, 1) := by decide +kernel
theorem dX11_shares_6 : decode (mc mX11_shares) 6 = .ok (.iadd, 1) := by decide +kernel
theorem dX11_shares_7 : decode (mc mX11_shares) 7 = .ok (.iaload, 1) := by decide +kernel
theorem dX11_shares_8 : decode (mc mX11_shares) 8 = .ok (.istore 4, 2) := by decide +kernel
theorem dX11_shares_10 : decode (mc mX11_shares) 10 = .ok (.iconst 0, 1) := by decide +kernel
theorem dX11_shares_11 : decode (mc mX11_shares) 11 = .ok (.istore 5, 2) := by decide +kernel
theorem dX11_shares_13 : decode (mc mX11_shares) 13 = .ok (.iload 5, 2) := by decide +kernel
theorem dX11_shares_15 : decode (mc mX11_shares) 15 = .ok (.aload_n 0, 1) := by decide +kernel
theorem dX11_shares_16 : decode (mc mX11_shares) 16 = .ok (.getfield 9, 3) := by decide +kernel
theorem dX11_shares_19 : decode (mc mX11_shares) 19 = .ok (.iconst 3, 1) := by decide +kernel
theorem dX11_shares_20 : decode (mc mX11_shares) 20 = .ok (.iaload, 1) := by decide +kernel
theorem dX11_shares_21 : decode (mc mX11_shares) 21 = .ok (.if_icmp .ge 47, 3) := by decide +kernel
theorem dX11_shares_24 : decode (mc mX11_shares) 24 = .ok (.aload_n 0, 1) := by decide +kernel
theorem dX11_shares_25 : decode (mc mX11_shares) 25 = .ok (.getfield 22, 3) := by decide +kernel
theorem dX11_shares_28 : decode (mc mX11_shares) 28 = .ok (.iload 5, 2) := by decide +kernel
theorem dX11_shares_30 : decode (mc mX11_shares) 30 = .ok (.iload_n 2, 1) := by decide +kernel
theorem dX11_shares_31 : decode (mc mX11_shares) 31 = .ok (.iload 5, 2) := by decide +kernel
theorem dX11_shares_33 : decode (mc mX11_shares) 33 = .ok (.invokestatic 165, 3) := by decide +kernel
theorem dX11_shares_36 : decode (mc mX11_shares) 36 = .ok (.ifCond .eq 12, 3) := by decide +kernel
theorem dX11_shares_39 : decode (mc mX11_shares) 39 = .ok (.aload_n 0, 1) := by decide +kernel
theorem dX11_shares_40 : decode (mc mX11_shares) 40 = .ok (.iload 5, 2) := by decide +kernel
theorem dX11_shares_42 : decode (mc mX11_shares) 42 = .ok (.invokevirtual 155, 3) := by decide +kernel
theorem dX11_shares_45 : decode (mc mX11_shares) 45 = .ok (.goto 4, 3) := by decide +kernel
theorem dX11_shares_48 : decode (mc mX11_shares) 48 = .ok (.iconst 0, 1) := by decide +kernel
theorem dX11_shares_49 : decode (mc mX11_shares) 49 = .ok (.iastore, 1) := by decide +kernel
theorem dX11_shares_50 : decode (mc mX11_shares) 50 = .ok (.iload 4, 2) := by decide +kernel
theorem dX11_shares_52 : decode (mc mX11_shares) 52 = .ok (.aload_n 0, 1) := by decide +kernel
theorem dX11_shares_53 : decode (mc mX11_shares) 53 = .ok (.getfield 22, 3) := by decide +kernel
theorem dX11_shares_56 : decode (mc mX11_shares) 56 = .ok (.iload 5, 2) := by decide +kernel
theorem dX11_shares_58 : decode (mc mX11_shares) 58 = .ok (.iaload, 1) := by decide +kernel
theorem dX11_shares_59 : decode (mc mX11_shares) 59 = .ok (.isub, 1) := by decide +kernel
theorem dX11_shares_60 : decode (mc mX11_shares) 60 = .ok (.istore 4, 2) := by decide +kernel
theorem dX11_shares_62 : decode (mc mX11_shares) 62 = .ok (.iinc 5 1, 3) := by decide +kernel
theorem dX11_shares_65 : decode (mc mX11_shares) 65 = .ok (.goto (-52), 3) := by decide +kernel
theorem dX11_shares_68 : decode (mc mX11_shares) 68 = .ok (.iconst 0, 1) := by decide +kernel
theorem dX11_shares_69 : decode (mc mX11_shares) 69 = .ok (.istore 5, 2) := by decide +kernel
theorem dX11_shares_71 : decode (mc mX11_shares) 71 = .ok (.iload 5, 2) := by decide +kernel
theorem dX11_shares_73 : decode (mc mX11_shares) 73 = .ok (.aload_n 0, 1) := by decide +kernel
theorem dX11_shares_74 : decode (mc mX11_shares) 74 = .ok (.getfield 9, 3) := by decide +kernel
theorem dX11_shares_77 : decode (mc mX11_shares) 77 = .ok (.iconst 3, 1) := by decide +kernel
theorem dX11_shares_78 : decode (mc mX11_shares) 78 = .ok (.iaload, 1) := by decide +kernel
theorem dX11_shares_79 : decode (mc mX11_shares) 79 = .ok (.if_icmp .ge 72, 3) := by decide +kernel
theorem dX11_shares_82 : decode (mc mX11_shares) 82 = .ok (.aload_n 0, 1) := by decide +kernel
theorem dX11_shares_83 : decode (mc mX11_shares) 83 = .ok (.iload 5, 2) := by decide +kernel
theorem dX11_shares_85 : decode (mc mX11_shares) 85 = .ok (.invokevirtual 182, 3) := by decide +kernel
theorem dX11_shares_88 : decode (mc mX11_shares) 88 = .ok (.istore 6, 2) := by decide +kernel
theorem dX11_shares_90 : decode (mc mX11_shares) 90 = .ok (.iload_n 2, 1) := by decide +kernel
theorem dX11_shares_91 : decode (mc mX11_shares) 91 = .ok (.iload 6, 2) := by decide +kernel
theorem dX11_shares_93 : decode (mc mX11_shares) 93 = .ok (.invokestatic 165, 3) := by decide +kernel
theorem dX11_shares_96 : decode (mc mX11_shares) 96 = .ok (.ifCond .eq 49, 3) := by decide +kernel
theorem dX11_shares_99 : decode (mc mX11_shares) 99 = .ok (.iload 4, 2) := by decide +kernel
theorem dX11_shares_101 : decode (mc mX11_shares) 101 = .ok (.aload_n 0, 1) := by decide +kernel
theorem dX11_shares_102 : decode (mc mX11_shares) 102 = .ok (.iload 6, 2) := by decide +kernel
theorem dX11_shares_104 : decode (mc mX11_shares) 104 = .ok (.iload_n 3, 1) := by decide +kernel
theorem dX11_shares_105 : decode (mc mX11_shares) 105 = .ok (.iload 6, 2) := by decide +kernel
theorem dX11_shares_107 : decode (mc mX11_shares) 107 = .ok (.invokestatic 165, 3) := by decide +kernel
theorem dX11_shares_110 : decode (mc mX11_shares) 110 = .ok (.invokevirtual 158, 3) := by decide +kernel
theorem dX11_shares_113 : decode (mc mX11_shares) 113 = .ok (.aload_n 0, 1) := by decide +kernel
theorem dX11_shares_114 : decode (mc mX11_shares) 114 = .ok (.getfield 22, 3) := by decide +kernel
theorem dX11_shares_117 : decode (mc mX11_shares) 117 = .ok (.iload 6, 2) := by decide +kernel
theorem dX11_shares_119 : decode (mc mX11_shares) 119 = .ok (.iaload, 1) := by decide +kernel
theorem dX11_shares_120 : decode (mc mX11_shares) 120 = .ok (.isub, 1) := by decide +kernel
theorem dX11_shares_121 : decode (mc mX11_shares) 121 = .ok (.invokestatic 148, 3) := by decide +kernel
theorem dX11_shares_124 : decode (mc mX11_shares) 124 = .ok (.istore 7, 2) := by decide +kernel
theorem dX11_shares_126 : decode (mc mX11_shares) 126 = .ok (.aload_n 0, 1) := by decide +kernel
theorem dX11_shares_127 : decode (mc mX11_shares) 127 = .ok (.getfield 22, 3) := by decide +kernel
theorem dX11_shares_130 : decode (mc mX11_shares) 130 = .ok (.iload 6, 2) := by decide +kernel
theorem dX11_shares_132 : decode (mc mX11_shares) 132 = .ok (.dup2, 1) := by decide +kernel
theorem dX11_shares_133 : decode (mc mX11_shares) 133 = .ok (.iaload, 1) := by decide +kernel
theorem dX11_shares_134 : decode (mc mX11_shares) 134 = .ok (.iload 7, 2) := by decide +kernel
theorem dX11_shares_136 : decode (mc mX11_shares) 136 = .ok (.iadd, 1) := by decide +kernel
theorem dX11_shares_137 : decode (mc mX11_shares) 137 = .ok (.iastore, 1) := by decide +kernel
theorem dX11_shares_138 : decode (mc mX11_shares) 138 = .ok (.iload 4, 2) := by decide +kernel
theorem dX11_shares_140 : decode (mc mX11_shares) 140 = .ok (.iload 7, 2) := by decide +kernel
theorem dX11_shares_142 : decode (mc mX11_shares) 142 = .ok (.isub, 1) := by decide +kernel
theorem dX11_shares_143 : decode (mc mX11_shares) 143 = .ok (.istore 4, 2) := by decide +kernel
theorem dX11_shares_145 : decode (mc mX11_shares) 145 = .ok (.iinc 5 1, 3) := by decide +kernel
theorem dX11_shares_148 : decode (mc mX11_shares) 148 = .ok (.goto (-77), 3) := by decide +kernel
theorem dX11_shares_151 : decode (mc mX11_shares) 151 = .ok (.return_, 1) := by decide +kernel
theorem dX11_costBy_0 : decode (mc mX11_costBy) 0 = .ok (.aload_n 0, 1) := by decide +kernel
theorem dX11_costBy_1 : decode (mc mX11_costBy) 1 = .ok (.iload_n 1, 1) := by decide +kernel
theorem dX11_costBy_2 : decode (mc mX11_costBy) 2 = .ok (.iload_n 2, 1) := by decide +kernel
theorem dX11_costBy_3 : decode (mc mX11_costBy) 3 = .ok (.iload_n 3, 1) := by decide +kernel
theorem dX11_costBy_4 : decode (mc mX11_costBy) 4 = .ok (.invokevirtual 185, 3) := by decide +kernel
theorem dX11_costBy_7 : decode (mc mX11_costBy) 7 = .ok (.ifCond .ne 6, 3) := by decide +kernel
theorem dX11_costBy_10 : decode (mc mX11_costBy) 10 = .ok (.ldc 189, 2) := by decide +kernel
theorem dX11_costBy_12 : decode (mc mX11_costBy) 12 = .ok (.ireturn, 1) := by decide +kernel
theorem dX11_costBy_13 : decode (mc mX11_costBy) 13 = .ok (.aload_n 0, 1) := by decide +kernel
theorem dX11_costBy_14 : decode (mc mX11_costBy) 14 = .ok (.iload_n 1, 1) := by decide +kernel
theorem dX11_costBy_15 : decode (mc mX11_costBy) 15 = .ok (.iload_n 2, 1) := by decide +kernel
theorem dX11_costBy_16 : decode (mc mX11_costBy) 16 = .ok (.iload_n 3, 1) := by decide +kernel
theorem dX11_costBy_17 : decode (mc mX11_costBy) 17 = .ok (.invokevirtual 190, 3) := by decide +kernel
theorem dX11_costBy_20 : decode (mc mX11_costBy) 20 = .ok (.iconst 0, 1) := by decide +kernel
theorem dX11_costBy_21 : decode (mc mX11_costBy) 21 = .ok (.istore 4, 2) := by decide +kernel
theorem dX11_costBy_23 : decode (mc mX11_costBy) 23 = .ok (.iconst 0, 1) := by decide +kernel
theorem dX11_costBy_24 : decode (mc mX11_costBy) 24 = .ok (.istore 5, 2) := by decide +kernel
theorem dX11_costBy_26 : decode (mc mX11_costBy) 26 = .ok (.iload 5, 2) := by decide +kernel
theorem dX11_costBy_28 : decode (mc mX11_costBy) 28 = .ok (.aload_n 0, 1) := by decide +kernel
theorem dX11_costBy_29 : decode (mc mX11_costBy) 29 = .ok (.getfield 9, 3) := by decide +kernel
theorem dX11_costBy_32 : decode (mc mX11_costBy) 32 = .ok (.iconst 3, 1) := by decide +kernel
theorem dX11_costBy_33 : decode (mc mX11_costBy) 33 = .ok (.iaload, 1) := by decide +kernel
theorem dX11_costBy_34 : decode (mc mX11_costBy) 34 = .ok (.if_icmp .ge 50, 3) := by decide +kernel
theorem dX11_costBy_37 : decode (mc mX11_costBy) 37 = .ok (.iload 4, 2) := by decide +kernel
theorem dX11_costBy_39 : decode (mc mX11_costBy) 39 = .ok (.iload_n 2, 1) := by decide +kernel
theorem dX11_costBy_40 : decode (mc mX11_costBy) 40 = .ok (.iload 5, 2) := by decide +kernel
theorem dX11_costBy_42 : decode (mc mX11_costBy) 42 = .ok (.invokestatic 165, 3) := by decide +kernel
theorem dX11_costBy_45 : decode (mc mX11_costBy) 45 = .ok (.ifCond .eq 29, 3) := by decide +kernel
theorem dX11_costBy_48 : decode (mc mX11_costBy) 48 = .ok (.aload_n 0, 1) := by decide +kernel
theorem dX11_costBy_49 : decode (mc mX11_costBy) 49 = .ok (.iload 5, 2) := by decide +kernel
theorem dX11_costBy_51 : decode (mc mX11_costBy) 51 = .ok (.iconst 4, 1) := by decide +kernel
theorem dX11_costBy_52 : decode (mc mX11_costBy) 52 = .ok (.invokevirtual 130, 3) := by decide +kernel
theorem dX11_costBy_55 : decode (mc mX11_costBy) 55 = .ok (.aload_n 0, 1) := by decide +kernel
theorem dX11_costBy_56 : decode (mc mX11_costBy) 56 = .ok (.getfield 22, 3) := by decide +kernel
theorem dX11_costBy_59 : decode (mc mX11_costBy) 59 = .ok (.iload 5, 2) := by decide +kernel
theorem dX11_costBy_61 : decode (mc mX11_costBy) 61 = .ok (.iaload, 1) := by decide +kernel
theorem dX11_costBy_62 : decode (mc mX11_costBy) 62 = .ok (.imul, 1) := by decide +kernel
theorem dX11_costBy_63 : decode (mc mX11_costBy) 63 = .ok (.aload_n 0, 1) := by decide +kernel
theorem dX11_costBy_64 : decode (mc mX11_costBy) 64 = .ok (.iload 5, 2) := by decide +kernel
theorem dX11_costBy_66 : decode (mc mX11_costBy) 66 = .ok (.iconst 5, 1) := by decide +kernel
theorem dX11_costBy_67 : decode (mc mX11_costBy) 67 = .ok (.invokevirtual 130, 3) := by decide +kernel
theorem dX11_costBy_70 : decode (mc mX11_costBy) 70 = .ok (.iadd, 1) := by decide +kernel
theorem dX11_costBy_71 : decode (mc mX11_costBy) 71 = .ok (.goto 4, 3) := by decide +kernel
theorem dX11_costBy_74 : decode (mc mX11_costBy) 74 = .ok (.iconst 0, 1) := by decide +kernel
theorem dX11_costBy_75 : decode (mc mX11_costBy) 75 = .ok (.iadd, 1) := by decide +kernel
theorem dX11_costBy_76 : decode (mc mX11_costBy) 76 = .ok (.istore 4, 2) := by decide +kernel
theorem dX11_costBy_78 : decode (mc mX11_costBy) 78 = .ok (.iinc 5 1, 3) := by decide +kernel
theorem dX11_costBy_81 : decode (mc mX11_costBy) 81 = .ok (.goto (-55), 3) := by decide +kernel
theorem dX11_costBy_84 : decode (mc mX11_costBy) 84 = .ok (.iload 4, 2) := by decide +kernel
theorem dX11_costBy_86 : decode (mc mX11_costBy) 86 = .ok (.ireturn, 1) := by decide +kernel
theorem dX11_setWrong_0 : decode (mc mX11_setWrong) 0 = .ok (.iload_n 1, 1) := by decide +kernel
theorem dX11_setWrong_1 : decode (mc mX11_setWrong) 1 = .ok (.iconst 0, 1) := by decide +kernel
theorem dX11_setWrong_2 : decode (mc mX11_setWrong) 2 = .ok (.iconst 1, 1) := by decide +kernel
theorem dX11_setWrong_3 : decode (mc mX11_setWrong) 3 = .ok (.aload_n 0, 1) := by decide +kernel
theorem dX11_setWrong_4 : decode (mc mX11_setWrong) 4 = .ok (.getfield 9, 3) := by decide +kernel
theorem dX11_setWrong_7 : decode (mc mX11_setWrong) 7 = .ok (.iconst 3, 1) := by decide +kernel
theorem dX11_setWrong_8 : decode (mc mX11_setWrong) 8 = .ok (.iaload, 1) := by decide +kernel
theorem dX11_setWrong_9 : decode (mc mX11_setWrong) 9 = .ok (.ishl, 1) := by decide +kernel
theorem dX11_setWrong_10 : decode (mc mX11_setWrong) 10 = .ok (.iconst 1, 1) := by decide +kernel
theorem dX11_setWrong_11 : decode (mc mX11_setWrong) 11 = .ok (.isub, 1) := by decide +kernel
theorem dX11_setWrong_12 : decode (mc mX11_setWrong) 12 = .ok (.invokestatic 93, 3) := by decide +kernel
theorem dX11_setWrong_15 : decode (mc mX11_setWrong) 15 = .ok (.ireturn, 1) := by decide +kernel
theorem dX11_done_0 : decode (mc mX11_done) 0 = .ok (.aload_n 0, 1) := by decide +kernel
theorem dX11_done_1 : decode (mc mX11_done) 1 = .ok (.iload_n 1, 1) := by decide +kernel
theorem dX11_done_2 : decode (mc mX11_done) 2 = .ok (.invokevirtual 100, 3) := by decide +kernel
theorem dX11_done_5 : decode (mc mX11_done) 5 = .ok (.ifCond .eq 11, 3) := by decide +kernel
theorem dX11_done_8 : decode (mc mX11_done) 8 = .ok (.aload_n 0, 1) := by decide +kernel
theorem dX11_done_9 : decode (mc mX11_done) 9 = .ok (.iload_n 2, 1) := by decide +kernel
theorem dX11_done_10 : decode (mc mX11_done) 10 = .ok (.invokevirtual 193, 3) := by decide +kernel
theorem dX11_done_13 : decode (mc mX11_done) 13 = .ok (.goto 4, 3) := by decide +kernel
theorem dX11_done_16 : decode (mc mX11_done) 16 = .ok (.iconst (-1), 1) := by decide +kernel
theorem dX11_done_17 : decode (mc mX11_done) 17 = .ok (.istore_n 3, 1) := by decide +kernel
theorem dX11_done_18 : decode (mc mX11_done) 18 = .ok (.iload_n 3, 1) := by decide +kernel
theorem dX11_done_19 : decode (mc mX11_done) 19 = .ok (.ifCond .eq 9, 3) := by decide +kernel
theorem dX11_done_22 : decode (mc mX11_done) 22 = .ok (.aload_n 0, 1) := by decide +kernel
theorem dX11_done_23 : decode (mc mX11_done) 23 = .ok (.iload_n 3, 1) := by decide +kernel
theorem dX11_done_24 : decode (mc mX11_done) 24 = .ok (.invokevirtual 79, 3) := by decide +kernel
theorem dX11_done_27 : decode (mc mX11_done) 27 = .ok (.ireturn, 1) := by decide +kernel
theorem dX11_done_28 : decode (mc mX11_done) 28 = .ok (.aload_n 0, 1) := by decide +kernel
theorem dX11_done_29 : decode (mc mX11_done) 29 = .ok (.iload_n 1, 1) := by decide +kernel
theorem dX11_done_30 : decode (mc mX11_done) 30 = .ok (.iload_n 2, 1) := by decide +kernel
theorem dX11_done_31 : decode (mc mX11_done) 31 = .ok (.iconst 0, 1) := by decide +kernel
theorem dX11_done_32 : decode (mc mX11_done) 32 = .ok (.invokevirtual 196, 3) := by decide +kernel
theorem dX11_done_35 : decode (mc mX11_done) 35 = .ok (.istore 4, 2) := by decide +kernel
theorem dX11_done_37 : decode (mc mX11_done) 37 = .ok (.iload 4, 2) := by decide +kernel
theorem dX11_done_39 : decode (mc mX11_done) 39 = .ok (.ldc 189, 2) := by decide +kernel
theorem dX11_done_41 : decode (mc mX11_done) 41 = .ok (.if_icmp .ne 8, 3) := by decide +kernel
theorem dX11_done_44 : decode (mc mX11_done) 44 = .ok (.bipush (-9), 2) := by decide +kernel
theorem dX11_done_46 : decode (mc mX11_done) 46 = .ok (.goto 5, 3) := by decide +kernel
theorem dX11_done_49 : decode (mc mX11_done) 49 = .ok (.iload 4, 2) := by decide +kernel
theorem dX11_done_51 : decode (mc mX11_done) 51 = .ok (.ireturn, 1) := by decide +kernel
theorem dX11_given_0 : decode (mc mX11_given) 0 = .ok (.aload_n 0, 1) := by decide +kernel
theorem dX11_given_1 : decode (mc mX11_given) 1 = .ok (.iload_n 1, 1) := by decide +kernel
theorem dX11_given_2 : decode (mc mX11_given) 2 = .ok (.invokevirtual 100, 3) := by decide +kernel
theorem dX11_given_5 : decode (mc mX11_given) 5 = .ok (.ifCond .eq 19, 3) := by decide +kernel
theorem dX11_given_8 : decode (mc mX11_given) 8 = .ok (.aload_n 0, 1) := by decide +kernel
theorem dX11_given_9 : decode (mc mX11_given) 9 = .ok (.iload_n 3, 1) := by decide +kernel
theorem dX11_given_10 : decode (mc mX11_given) 10 = .ok (.invokevirtual 124, 3) := by decide +kernel
theorem dX11_given_13 : decode (mc mX11_given) 13 = .ok (.ifCond .eq 11, 3) := by decide +kernel
theorem dX11_given_16 : decode (mc mX11_given) 16 = .ok (.aload_n 0, 1) := by decide +kernel
theorem dX11_given_17 : decode (mc mX11_given) 17 = .ok (.iload_n 2, 1) := by decide +kernel
theorem dX11_given_18 : decode (mc mX11_given) 18 = .ok (.invokevirtual 193, 3) := by decide +kernel
theorem dX11_given_21 : decode (mc mX11_given) 21 = .ok (.goto 4, 3) := by decide +kernel
theorem dX11_given_24 : decode (mc mX11_given) 24 = .ok (.iconst (-1), 1) := by decide +kernel
theorem dX11_given_25 : decode (mc mX11_given) 25 = .ok (.istore 4, 2) := by decide +kernel
theorem dX11_given_27 : decode (mc mX11_given) 27 = .ok (.iload 4, 2) := by decide +kernel
theorem dX11_given_29 : decode (mc mX11_given) 29 = .ok (.ifCond .eq 10, 3) := by decide +kernel
theorem dX11_given_32 : decode (mc mX11_given) 32 = .ok (.aload_n 0, 1) := by decide +kernel
theorem dX11_given_33 : decode (mc mX11_given) 33 = .ok (.iload 4, 2) := by decide +kernel
theorem dX11_given_35 : decode (mc mX11_given) 35 = .ok (.invokevirtual 79, 3) := by decide +kernel
theorem dX11_given_38 : decode (mc mX11_given) 38 = .ok (.ireturn, 1) := by decide +kernel
theorem dX11_given_39 : decode (mc mX11_given) 39 = .ok (.iload_n 2, 1) := by decide +kernel
theorem dX11_given_40 : decode (mc mX11_given) 40 = .ok (.iload_n 3, 1) := by decide +kernel
theorem dX11_given_41 : decode (mc mX11_given) 41 = .ok (.invokestatic 165, 3) := by decide +kernel
theorem dX11_given_44 : decode (mc mX11_given) 44 = .ok (.ifCond .ne 5, 3) := by decide +kernel
theorem dX11_given_47 : decode (mc mX11_given) 47 = .ok (.iconst 0, 1) := by decide +kernel
theorem dX11_given_48 : decode (mc mX11_given) 48 = .ok (.ireturn, 1) := by decide +kernel
theorem dX11_given_49 : decode (mc mX11_given) 49 = .ok (.aload_n 0, 1) := by decide +kernel
theorem dX11_given_50 : decode (mc mX11_given) 50 = .ok (.iload_n 1, 1) := by decide +kernel
theorem dX11_given_51 : decode (mc mX11_given) 51 = .ok (.iload_n 2, 1) := by decide +kernel
theorem dX11_given_52 : decode (mc mX11_given) 52 = .ok (.iconst 0, 1) := by decide +kernel
theorem dX11_given_53 : decode (mc mX11_given) 53 = .ok (.invokevirtual 196, 3) := by decide +kernel
theorem dX11_given_56 : decode (mc mX11_given) 56 = .ok (.ldc 189, 2) := by decide +kernel
theorem dX11_given_58 : decode (mc mX11_given) 58 = .ok (.if_icmp .ne 6, 3) := by decide +kernel
theorem dX11_given_61 : decode (mc mX11_given) 61 = .ok (.bipush (-9), 2) := by decide +kernel
theorem dX11_given_63 : decode (mc mX11_given) 63 = .ok (.ireturn, 1) := by decide +kernel
theorem dX11_given_64 : decode (mc mX11_given) 64 = .ok (.aload_n 0, 1) := by decide +kernel
theorem dX11_given_65 : decode (mc mX11_given) 65 = .ok (.getfield 22, 3) := by decide +kernel
theorem dX11_given_68 : decode (mc mX11_given) 68 = .ok (.iload_n 3, 1) := by decide +kernel
theorem dX11_given_69 : decode (mc mX11_given) 69 = .ok (.iaload, 1) := by decide +kernel
theorem dX11_given_70 : decode (mc mX11_given) 70 = .ok (.ireturn, 1) := by decide +kernel
theorem dX11_laysRows_0 : decode (mc mX11_laysRows) 0 = .ok (.iconst 0, 1) := by decide +kernel
theorem dX11_laysRows_1 : decode (mc mX11_laysRows) 1 = .ok (.istore_n 2, 1) := by decide +kernel
theorem dX11_laysRows_2 : decode (mc mX11_laysRows) 2 = .ok (.iload_n 2, 1) := by decide +kernel
theorem dX11_laysRows_3 : decode (mc mX11_laysRows) 3 = .ok (.iconst 1, 1) := by decide +kernel
theorem dX11_laysRows_4 : decode (mc mX11_laysRows) 4 = .ok (.aload_n 0, 1) := by decide +kernel
theorem dX11_laysRows_5 : decode (mc mX11_laysRows) 5 = .ok (.getfield 9, 3) := by decide +kernel
theorem dX11_laysRows_8 : decode (mc mX11_laysRows) 8 = .ok (.iconst 0, 1) := by decide +kernel
theorem dX11_laysRows_9 : decode (mc mX11_laysRows) 9 = .ok (.iaload, 1) := by decide +kernel
theorem dX11_laysRows_10 : decode (mc mX11_laysRows) 10 = .ok (.ishl, 1) := by decide +kernel
theorem dX11_laysRows_11 : decode (mc mX11_laysRows) 11 = .ok (.if_icmp .ge 151, 3) := by decide +kernel
theorem dX11_laysRows_14 : decode (mc mX11_laysRows) 14 = .ok (.bipush 32, 2) := by decide +kernel
theorem dX11_laysRows_16 : decode (mc mX11_laysRows) 16 = .ok (.iload_n 1, 1) := by decide +kernel
theorem dX11_laysRows_17 : decode (mc mX11_laysRows) 17 = .ok (.imul, 1) := by decide +kernel
theorem dX11_laysRows_18 : decode (mc mX11_laysRows) 18 = .ok (.iload_n 2, 1) := by decide +kernel
theorem dX11_laysRows_19 : decode (mc mX11_laysRows) 19 = .ok (.iadd, 1) := by decide +kernel
theorem dX11_laysRows_20 : decode (mc mX11_laysRows) 20 = .ok (.istore_n 3, 1) := by decide +kernel
theorem dX11_laysRows_21 : decode (mc mX11_laysRows) 21 = .ok (.aload_n 0, 1) := by decide +kernel
theorem dX11_laysRows_22 : decode (mc mX11_laysRows) 22 = .ok (.getfield 28, 3) := by decide +kernel
theorem dX11_laysRows_25 : decode (mc mX11_laysRows) 25 = .ok (.iload_n 3, 1) := by decide +kernel
theorem dX11_laysRows_26 : decode (mc mX11_laysRows) 26 = .ok (.aload_n 0, 1) := by decide +kernel
theorem dX11_laysRows_27 : decode (mc mX11_laysRows) 27 = .ok (.getfield 199, 3) := by decide +kernel
theorem dX11_laysRows_30 : decode (mc mX11_laysRows) 30 = .ok (.iload_n 1, 1) := by decide +kernel
theorem dX11_laysRows_31 : decode (mc mX11_laysRows) 31 = .ok (.invokestatic 165, 3) := by decide +kernel
theorem dX11_laysRows_34 : decode (mc mX11_laysRows) 34 = .ok (.ifCond .eq 15, 3) := by decide +kernel
theorem dX11_laysRows_37 : decode (mc mX11_laysRows) 37 = .ok (.iload_n 2, 1) := by decide +kernel
theorem dX11_laysRows_38 : decode (mc mX11_laysRows) 38 = .ok (.ifCond .ne 7, 3) := by decide +kernel
theorem dX11_laysRows_41 : decode (mc mX11_laysRows) 41 = .ok (.iconst 1, 1) := by decide +kernel
theorem dX11_laysRows_42 : decode (mc mX11_laysRows) 42 = .ok (.goto 13, 3) := by decide +kernel
theorem dX11_laysRows_45 : decode (mc mX11_laysRows) 45 = .ok (.iconst 0, 1) := by decide +kernel
theorem dX11_laysRows_46 : decode (mc mX11_laysRows) 46 = .ok (.goto 9, 3) := by decide +kernel
theorem dX11_laysRows_49 : decode (mc mX11_laysRows) 49 = .ok (.aload_n 0, 1) := by decide +kernel
theorem dX11_laysRows_50 : decode (mc mX11_laysRows) 50 = .ok (.iload_n 1, 1) := by decide +kernel
theorem dX11_laysRows_51 : decode (mc mX11_laysRows) 51 = .ok (.iload_n 2, 1) := by decide +kernel
theorem dX11_laysRows_52 : decode (mc mX11_laysRows) 52 = .ok (.invokevirtual 176, 3) := by decide +kernel
theorem dX11_laysRows_55 : decode (mc mX11_laysRows) 55 = .ok (.bastore, 1) := by decide +kernel
theorem dX11_laysRows_56 : decode (mc mX11_laysRows) 56 = .ok (.aload_n 0, 1) := by decide +kernel
theorem dX11_laysRows_57 : decode (mc mX11_laysRows) 57 = .ok (.getfield 32, 3) := by decide +kernel
theorem dX11_laysRows_60 : decode (mc mX11_laysRows) 60 = .ok (.iload_n 3, 1) := by decide +kernel
theorem dX11_laysRows_61 : decode (mc mX11_laysRows) 61 = .ok (.iconst 0, 1) := by decide +kernel
theorem dX11_laysRows_62 : decode (mc mX11_laysRows) 62 = .ok (.iastore, 1) := by decide +kernel
theorem dX11_laysRows_63 : decode (mc mX11_laysRows) 63 = .ok (.aload_n 0, 1) := by decide +kernel
theorem dX11_laysRows_64 : decode (mc mX11_laysRows) 64 = .ok (.getfield 35, 3) := by decide +kernel
theorem dX11_laysRows_67 : decode (mc mX11_laysRows) 67 = .ok (.iload_n 3, 1) := by decide +kernel
theorem dX11_laysRows_68 : decode (mc mX11_laysRows) 68 = .ok (.iconst 0, 1) := by decide +kernel
theorem dX11_laysRows_69 : decode (mc mX11_laysRows) 69 = .ok (.iastore, 1) := by decide +kernel
theorem dX11_laysRows_70 : decode (mc mX11_laysRows) 70 = .ok (.aload_n 0, 1) := by decide +kernel
theorem dX11_laysRows_71 : decode (mc mX11_laysRows) 71 = .ok (.iload_n 1, 1) := by decide +kernel
theorem dX11_laysRows_72 : decode (mc mX11_laysRows) 72 = .ok (.bipush 9, 2) := by decide +kernel
theorem dX11_laysRows_74 : decode (mc mX11_laysRows) 74 = .ok (.invokevirtual 130, 3) := by decide +kernel
theorem dX11_laysRows_77 : decode (mc mX11_laysRows) 77 = .ok (.istore 4, 2) := by decide +kernel
theorem dX11_laysRows_79 : decode (mc mX11_laysRows) 79 = .ok (.iconst 0, 1) := by decide +kernel
theorem dX11_laysRows_80 : decode (mc mX11_laysRows) 80 = .ok (.istore 5, 2) := by decide +kernel
theorem dX11_laysRows_82 : decode (mc mX11_laysRows) 82 = .ok (.iload 5, 2) := by decide +kernel
theorem dX11_laysRows_84 : decode (mc mX11_laysRows) 84 = .ok (.aload_n 0, 1) := by decide +kernel
theorem dX11_laysRows_85 : decode (mc mX11_laysRows) 85 = .ok (.getfield 9, 3) := by decide +kernel
theorem dX11_laysRows_88 : decode (mc mX11_laysRows) 88 = .ok (.iconst 0, 1) := by decide +kernel
theorem dX11_laysRows_89 : decode (mc mX11_laysRows) 89 = .ok (.iaload, 1) := by decide +kernel
theorem dX11_laysRows_90 : decode (mc mX11_laysRows) 90 = .ok (.if_icmp .ge 66, 3) := by decide +kernel
theorem dX11_laysRows_93 : decode (mc mX11_laysRows) 93 = .ok (.iload 4, 2) := by decide +kernel
theorem dX11_laysRows_95 : decode (mc mX11_laysRows) 95 = .ok (.ifCond .ge 42, 3) := by decide +kernel
theorem dX11_laysRows_98 : decode (mc mX11_laysRows) 98 = .ok (.iload_n 2, 1) := by decide +kernel
theorem dX11_laysRows_99 : decode (mc mX11_laysRows) 99 = .ok (.iload 5, 2) := by decide +kernel
theorem dX11_laysRows_101 : decode (mc mX11_laysRows) 101 = .ok (.invokestatic 165, 3) := by decide +kernel
theorem dX11_laysRows_104 : decode (mc mX11_laysRows) 104 = .ok (.ifCond .eq 33, 3) := by decide +kernel
theorem dX11_laysRows_107 : decode (mc mX11_laysRows) 107 = .ok (.aload_n 0, 1) := by decide +kernel
theorem dX11_laysRows_108 : decode (mc mX11_laysRows) 108 = .ok (.getfield 32, 3) := by decide +kernel
theorem dX11_laysRows_111 : decode (mc mX11_laysRows) 111 = .ok (.iload_n 3, 1) := by decide +kernel
theorem dX11_laysRows_112 : decode (mc mX11_laysRows) 112 = .ok (.dup2, 1) := by decide +kernel
theorem dX11_laysRows_113 : decode (mc mX11_laysRows) 113 = .ok (.iaload, 1) := by decide +kernel
theorem dX11_laysRows_114 : decode (mc mX11_laysRows) 114 = .ok (.iconst 1, 1) := by decide +kernel
theorem dX11_laysRows_115 : decode (mc mX11_laysRows) 115 = .ok (.iload 5, 2) := by decide +kernel
theorem dX11_laysRows_117 : decode (mc mX11_laysRows) 117 = .ok (.ishl, 1) := by decide +kernel
theorem dX11_laysRows_118 : decode (mc mX11_laysRows) 118 = .ok (.ior, 1) := by decide +kernel
theorem dX11_laysRows_119 : decode (mc mX11_laysRows) 119 = .ok (.iastore, 1) := by decide +kernel
theorem dX11_laysRows_120 : decode (mc mX11_laysRows) 120 = .ok (.aload_n 0, 1) := by decide +kernel
theorem dX11_laysRows_121 : decode (mc mX11_laysRows) 121 = .ok (.getfield 35, 3) := by decide +kernel
theorem dX11_laysRows_124 : decode (mc mX11_laysRows) 124 = .ok (.iload_n 3, 1) := by decide +kernel
theorem dX11_laysRows_125 : decode (mc mX11_laysRows) 125 = .ok (.dup2, 1) := by decide +kernel
theorem dX11_laysRows_126 : decode (mc mX11_laysRows) 126 = .ok (.iaload, 1) := by decide +kernel
theorem dX11_laysRows_127 : decode (mc mX11_laysRows) 127 = .ok (.aload_n 0, 1) := by decide +kernel
theorem dX11_laysRows_128 : decode (mc mX11_laysRows) 128 = .ok (.iload_n 1, 1) := by decide +kernel
theorem dX11_laysRows_129 : decode (mc mX11_laysRows) 129 = .ok (.iload 4, 2) := by decide +kernel
theorem dX11_laysRows_131 : decode (mc mX11_laysRows) 131 = .ok (.ineg, 1) := by decide +kernel
theorem dX11_laysRows_132 : decode (mc mX11_laysRows) 132 = .ok (.invokevirtual 162, 3) := by decide +kernel
theorem dX11_laysRows_135 : decode (mc mX11_laysRows) 135 = .ok (.iadd, 1) := by decide +kernel
theorem dX11_laysRows_136 : decode (mc mX11_laysRows) 136 = .ok (.iastore, 1) := by decide +kernel
theorem dX11_laysRows_137 : decode (mc mX11_laysRows) 137 = .ok (.iload 4, 2) := by decide +kernel
theorem dX11_laysRows_139 : decode (mc mX11_laysRows) 139 = .ok (.iload_n 2, 1) := by decide +kernel
theorem dX11_laysRows_140 : decode (mc mX11_laysRows) 140 = .ok (.iload 5, 2) := by decide +kernel
theorem dX11_laysRows_142 : decode (mc mX11_laysRows) 142 = .ok (.invokestatic 165, 3) := by decide +kernel
theorem dX11_laysRows_145 : decode (mc mX11_laysRows) 145 = .ok (.invokestatic 173, 3) := by decide +kernel
theorem dX11_laysRows_148 : decode (mc mX11_laysRows) 148 = .ok (.istore 4, 2) := by decide +kernel
theorem dX11_laysRows_150 : decode (mc mX11_laysRows) 150 = .ok (.iinc 5 1, 3) := by decide +kernel
theorem dX11_laysRows_153 : decode (mc mX11_laysRows) 153 = .ok (.goto (-71), 3) := by decide +kernel
theorem dX11_laysRows_156 : decode (mc mX11_laysRows) 156 = .ok (.iinc 2 1, 3) := by decide +kernel
theorem dX11_laysRows_159 : decode (mc mX11_laysRows) 159 = .ok (.goto (-157), 3) := by decide +kernel
theorem dX11_laysRows_162 : decode (mc mX11_laysRows) 162 = .ok (.return_, 1) := by decide +kernel
theorem dX11_laysTable_0 : decode (mc mX11_laysTable) 0 = .ok (.iconst 0, 1) := by decide +kernel
theorem dX11_laysTable_1 : decode (mc mX11_laysTable) 1 = .ok (.istore_n 1, 1) := by decide +kernel
theorem dX11_laysTable_2 : decode (mc mX11_laysTable) 2 = .ok (.iload_n 1, 1) := by decide +kernel
theorem dX11_laysTable_3 : decode (mc mX11_laysTable) 3 = .ok (.aload_n 0, 1) := by decide +kernel
theorem dX11_laysTable_4 : decode (mc mX11_laysTable) 4 = .ok (.getfield 9, 3) := by decide +kernel
theorem dX11_laysTable_7 : decode (mc mX11_laysTable) 7 = .ok (.iconst 0, 1) := by decide +kernel
theorem dX11_laysTable_8 : decode (mc mX11_laysTable) 8 = .ok (.iaload, 1) := by decide +kernel
theorem dX11_laysTable_9 : decode (mc mX11_laysTable) 9 = .ok (.if_icmp .ge 73, 3) := by decide +kernel
theorem dX11_laysTable_12 : decode (mc mX11_laysTable) 12 = .ok (.iconst 0, 1) := by decide +kernel
theorem dX11_laysTable_13 : decode (mc mX11_laysTable) 13 = .ok (.istore_n 2, 1) := by decide +kernel
theorem dX11_laysTable_14 : decode (mc mX11_laysTable) 14 = .ok (.iload_n 2, 1) := by decide +kernel
theorem dX11_laysTable_15 : decode (mc mX11_laysTable) 15 = .ok (.iconst 1, 1) := by decide +kernel
theorem dX11_laysTable_16 : decode (mc mX11_laysTable) 16 = .ok (.aload_n 0, 1) := by decide +kernel
theorem dX11_laysTable_17 : decode (mc mX11_laysTable) 17 = .ok (.getfield 9, 3) := by decide +kernel
theorem dX11_laysTable_20 : decode (mc mX11_laysTable) 20 = .ok (.iconst 3, 1) := by decide +kernel
theorem dX11_laysTable_21 : decode (mc mX11_laysTable) 21 = .ok (.iaload, 1) := by decide +kernel
theorem dX11_laysTable_22 : decode (mc mX11_laysTable) 22 = .ok (.ishl, 1) := by decide +kernel
theorem dX11_laysTable_23 : decode (mc mX11_laysTable) 23 = .ok (.if_icmp .ge 53, 3) := by decide +kernel
theorem dX11_laysTable_26 : decode (mc mX11_laysTable) 26 = .ok (.iconst 0, 1) := by decide +kernel
theorem dX11_laysTable_27 : decode (mc mX11_laysTable) 27 = .ok (.istore_n 3, 1) := by decide +kernel
theorem dX11_laysTable_28 : decode (mc mX11_laysTable) 28 = .ok (.iload_n 3, 1) := by decide +kernel
theorem dX11_laysTable_29 : decode (mc mX11_laysTable) 29 = .ok (.iload_n 2, 1) := by decide +kernel
theorem dX11_laysTable_30 : decode (mc mX11_laysTable) 30 = .ok (.if_icmp .gt 40, 3) := by decide +kernel
theorem dX11_laysTable_33 : decode (mc mX11_laysTable) 33 = .ok (.iload_n 3, 1) := by decide +kernel
theorem dX11_laysTable_34 : decode (mc mX11_laysTable) 34 = .ok (.iload_n 2, 1) := by decide +kernel
theorem dX11_laysTable_35 : decode (mc mX11_laysTable) 35 = .ok (.iconst (-1), 1) := by decide +kernel
theorem dX11_laysTable_36 : decode (mc mX11_laysTable) 36 = .ok (.ixor, 1) := by decide +kernel
theorem dX11_laysTable_37 : decode (mc mX11_laysTable) 37 = .ok (.iand, 1) := by decide +kernel
theorem dX11_laysTable_38 : decode (mc mX11_laysTable) 38 = .ok (.ifCond .ne 26, 3) := by decide +kernel
theorem dX11_laysTable_41 : decode (mc mX11_laysTable) 41 = .ok (.aload_n 0, 1) := by decide +kernel
theorem dX11_laysTable_42 : decode (mc mX11_laysTable) 42 = .ok (.getfield 25, 3) := by decide +kernel
theorem dX11_laysTable_45 : decode (mc mX11_laysTable) 45 = .ok (.bipush 8, 2) := by decide +kernel
theorem dX11_laysTable_47 : decode (mc mX11_laysTable) 47 = .ok (.bipush 8, 2) := by decide +kernel
theorem dX11_laysTable_49 : decode (mc mX11_laysTable) 49 = .ok (.iload_n 1, 1) := by decide +kernel
theorem dX11_laysTable_50 : decode (mc mX11_laysTable) 50 = .ok (.imul, 1) := by decide +kernel
theorem dX11_laysTable_51 : decode (mc mX11_laysTable) 51 = .ok (.iload_n 2, 1) := by decide +kernel
theorem dX11_laysTable_52 : decode (mc mX11_laysTable) 52 = .ok (.iadd, 1) := by decide +kernel
theorem dX11_laysTable_53 : decode (mc mX11_laysTable) 53 = .ok (.imul, 1) := by decide +kernel
theorem dX11_laysTable_54 : decode (mc mX11_laysTable) 54 = .ok (.iload_n 3, 1) := by decide +kernel
theorem dX11_laysTable_55 : decode (mc mX11_laysTable) 55 = .ok (.iadd, 1) := by decide +kernel
theorem dX11_laysTable_56 : decode (mc mX11_laysTable) 56 = .ok (.aload_n 0, 1) := by decide +kernel
theorem dX11_laysTable_57 : decode (mc mX11_laysTable) 57 = .ok (.iload_n 1, 1) := by decide +kernel
theorem dX11_laysTable_58 : decode (mc mX11_laysTable) 58 = .ok (.iload_n 2, 1) := by decide +kernel
theorem dX11_laysTable_59 : decode (mc mX11_laysTable) 59 = .ok (.iload_n 3, 1) := by decide +kernel
theorem dX11_laysTable_60 : decode (mc mX11_laysTable) 60 = .ok (.invokevirtual 196, 3) := by decide +kernel
theorem dX11_laysTable_63 : decode (mc mX11_laysTable) 63 = .ok (.iastore, 1) := by decide +kernel
theorem dX11_laysTable_64 : decode (mc mX11_laysTable) 64 = .ok (.iinc 3 1, 3) := by decide +kernel
theorem dX11_laysTable_67 : decode (mc mX11_laysTable) 67 = .ok (.goto (-39), 3) := by decide +kernel
theorem dX11_laysTable_70 : decode (mc mX11_laysTable) 70 = .ok (.iinc 2 1, 3) := by decide +kernel
theorem dX11_laysTable_73 : decode (mc mX11_laysTable) 73 = .ok (.goto (-59), 3) := by decide +kernel
theorem dX11_laysTable_76 : decode (mc mX11_laysTable) 76 = .ok (.iinc 1 1, 3) := by decide +kernel
theorem dX11_laysTable_79 : decode (mc mX11_laysTable) 79 = .ok (.goto (-77), 3) := by decide +kernel
theorem dX11_laysTable_82 : decode (mc mX11_laysTable) 82 = .ok (.return_, 1) := by decide +kernel
theorem dX11_costOfTried_0 : decode (mc mX11_costOfTried) 0 = .ok (.iconst 0, 1) := by decide +kernel
theorem dX11_costOfTried_1 : decode (mc mX11_costOfTried) 1 = .ok (.istore_n 1, 1) := by decide +kernel
theorem dX11_costOfTried_2 : decode (mc mX11_costOfTried) 2 = .ok (.iconst 0, 1) := by decide +kernel
theorem dX11_costOfTried_3 : decode (mc mX11_costOfTried) 3 = .ok (.istore_n 2, 1) := by decide +kernel
theorem dX11_costOfTried_4 : decode (mc mX11_costOfTried) 4 = .ok (.iload_n 2, 1) := by decide +kernel
theorem dX11_costOfTried_5 : decode (mc mX11_costOfTried) 5 = .ok (.aload_n 0, 1) := by decide +kernel
theorem dX11_costOfTried_6 : decode (mc mX11_costOfTried) 6 = .ok (.getfield 9, 3) := by decide +kernel
theorem dX11_costOfTried_9 : decode (mc mX11_costOfTried) 9 = .ok (.iconst 3, 1) := by decide +kernel
theorem dX11_costOfTried_10 : decode (mc mX11_costOfTried) 10 = .ok (.iaload, 1) := by decide +kernel
theorem dX11_costOfTried_11 : decode (mc mX11_costOfTried) 11 = .ok (.if_icmp .ge 28, 3) := by decide +kernel
theorem dX11_costOfTried_14 : decode (mc mX11_costOfTried) 14 = .ok (.iload_n 1, 1) := by decide +kernel
theorem dX11_costOfTried_15 : decode (mc mX11_costOfTried) 15 = .ok (.aload_n 0, 1) := by decide +kernel
theorem dX11_costOfTried_16 : decode (mc mX11_costOfTried) 16 = .ok (.getfield 35, 3) := by decide +kernel
theorem dX11_costOfTried_19 : decode (mc mX11_costOfTried) 19 = .ok (.bipush 32, 2) := by decide +kernel
theorem dX11_costOfTried_21 : decode (mc mX11_costOfTried) 21 = .ok (.iload_n 2, 1) := by decide +kernel
theorem dX11_costOfTried_22 : decode (mc mX11_costOfTried) 22 = .ok (.imul, 1) := by decide +kernel
theorem dX11_costOfTried_23 : decode (mc mX11_costOfTried) 23 = .ok (.aload_n 0, 1) := by decide +kernel
theorem dX11_costOfTried_24 : decode (mc mX11_costOfTried) 24 = .ok (.getfield 41, 3) := by decide +kernel
theorem dX11_costOfTried_27 : decode (mc mX11_costOfTried) 27 = .ok (.iload_n 2, 1) := by decide +kernel
theorem dX11_costOfTried_28 : decode (mc mX11_costOfTried) 28 = .ok (.iaload, 1) := by decide +kernel
theorem dX11_costOfTried_29 : decode (mc mX11_costOfTried) 29 = .ok (.iadd, 1) := by decide +kernel
theorem dX11_costOfTried_30 : decode (mc mX11_costOfTried) 30 = .ok (.iaload, 1) := by decide +kernel
theorem dX11_costOfTried_31 : decode (mc mX11_costOfTried) 31 = .ok (.iadd, 1) := by decide +kernel
theorem dX11_costOfTried_32 : decode (mc mX11_costOfTried) 32 = .ok (.istore_n 1, 1) := by decide +kernel
theorem dX11_costOfTried_33 : decode (mc mX11_costOfTried) 33 = .ok (.iinc 2 1, 3) := by decide +kernel
theorem dX11_costOfTried_36 : decode (mc mX11_costOfTried) 36 = .ok (.goto (-32), 3) := by decide +kernel
theorem dX11_costOfTried_39 : decode (mc mX11_costOfTried) 39 = .ok (.iconst 0, 1) := by decide +kernel
theorem dX11_costOfTried_40 : decode (mc mX11_costOfTried) 40 = .ok (.istore_n 2, 1) := by decide +kernel
theorem dX11_costOfTried_41 : decode (mc mX11_costOfTried) 41 = .ok (.iload_n 2, 1) := by decide +kernel
theorem dX11_costOfTried_42 : decode (mc mX11_costOfTried) 42 = .ok (.aload_n 0, 1) := by decide +kernel
theorem dX11_costOfTried_43 : decode (mc mX11_costOfTried) 43 = .ok (.getfield 9, 3) := by decide +kernel
theorem dX11_costOfTried_46 : decode (mc mX11_costOfTried) 46 = .ok (.iconst 0, 1) := by decide +kernel
theorem dX11_costOfTried_47 : decode (mc mX11_costOfTried) 47 = .ok (.iaload, 1) := by decide +kernel
theorem dX11_costOfTried_48 : decode (mc mX11_costOfTried) 48 = .ok (.if_icmp .ge 131, 3) := by decide +kernel
theorem dX11_costOfTried_51 : decode (mc mX11_costOfTried) 51 = .ok (.iconst 0, 1) := by decide +kernel
theorem dX11_costOfTried_52 : decode (mc mX11_costOfTried) 52 = .ok (.istore_n 3, 1) := by decide +kernel
theorem dX11_costOfTried_53 : decode (mc mX11_costOfTried) 53 = .ok (.iconst 0, 1) := by decide +kernel
theorem dX11_costOfTried_54 : decode (mc mX11_costOfTried) 54 = .ok (.istore 4, 2) := by decide +kernel
theorem dX11_costOfTried_56 : decode (mc mX11_costOfTried) 56 = .ok (.iconst 0, 1) := by decide +kernel
theorem dX11_costOfTried_57 : decode (mc mX11_costOfTried) 57 = .ok (.istore 5, 2) := by decide +kernel
theorem dX11_costOfTried_59 : decode (mc mX11_costOfTried) 59 = .ok (.iload 5, 2) := by decide +kernel
theorem dX11_costOfTried_61 : decode (mc mX11_costOfTried) 61 = .ok (.aload_n 0, 1) := by decide +kernel
theorem dX11_costOfTried_62 : decode (mc mX11_costOfTried) 62 = .ok (.getfield 9, 3) := by decide +kernel
theorem dX11_costOfTried_65 : decode (mc mX11_costOfTried) 65 = .ok (.iconst 3, 1) := by decide +kernel
theorem dX11_costOfTried_66 : decode (mc mX11_costOfTried) 66 = .ok (.iaload, 1) := by decide +kernel
theorem dX11_costOfTried_67 : decode (mc mX11_costOfTried) 67 = .ok (.if_icmp .ge 72, 3) := by decide +kernel
theorem dX11_costOfTried_70 : decode (mc mX11_costOfTried) 70 = .ok (.iload_n 3, 1) := by decide +kernel
theorem dX11_costOfTried_71 : decode (mc mX11_costOfTried) 71 = .ok (.aload_n 0, 1) := by decide +kernel
theorem dX11_costOfTried_72 : decode (mc mX11_costOfTried) 72 = .ok (.getfield 41, 3) := by decide +kernel
theorem dX11_costOfTried_75 : decode (mc mX11_costOfTried) 75 = .ok (.iload 5, 2) := by decide +kernel
theorem dX11_costOfTried_77 : decode (mc mX11_costOfTried) 77 = .ok (.iaload, 1) := by decide +kernel
theorem dX11_costOfTried_78 : decode (mc mX11_costOfTried) 78 = .ok (.iload_n 2, 1) := by decide +kernel
theorem dX11_costOfTried_79 : decode (mc mX11_costOfTried) 79 = .ok (.invokestatic 165, 3) := by decide +kernel
theorem dX11_costOfTried_82 : decode (mc mX11_costOfTried) 82 = .ok (.ifCond .eq 10, 3) := by decide +kernel
theorem dX11_costOfTried_85 : decode (mc mX11_costOfTried) 85 = .ok (.iconst 1, 1) := by decide +kernel
theorem dX11_costOfTried_86 : decode (mc mX11_costOfTried) 86 = .ok (.iload 5, 2) := by decide +kernel
theorem dX11_costOfTried_88 : decode (mc mX11_costOfTried) 88 = .ok (.ishl, 1) := by decide +kernel
theorem dX11_costOfTried_89 : decode (mc mX11_costOfTried) 89 = .ok (.goto 4, 3) := by decide +kernel
theorem dX11_costOfTried_92 : decode (mc mX11_costOfTried) 92 = .ok (.iconst 0, 1) := by decide +kernel
theorem dX11_costOfTried_93 : decode (mc mX11_costOfTried) 93 = .ok (.ior, 1) := by decide +kernel
theorem dX11_costOfTried_94 : decode (mc mX11_costOfTried) 94 = .ok (.istore_n 3, 1) := by decide +kernel
theorem dX11_costOfTried_95 : decode (mc mX11_costOfTried) 95 = .ok (.iload 4, 2) := by decide +kernel
theorem dX11_costOfTried_97 : decode (mc mX11_costOfTried) 97 = .ok (.aload_n 0, 1) := by decide +kernel
theorem dX11_costOfTried_98 : decode (mc mX11_costOfTried) 98 = .ok (.getfield 32, 3) := by decide +kernel
theorem dX11_costOfTried_101 : decode (mc mX11_costOfTried) 101 = .ok (.bipush 32, 2) := by decide +kernel
theorem dX11_costOfTried_103 : decode (mc mX11_costOfTried) 103 = .ok (.iload 5, 2) := by decide +kernel
theorem dX11_costOfTried_105 : decode (mc mX11_costOfTried) 105 = .ok (.imul, 1) := by decide +kernel
theorem dX11_costOfTried_106 : decode (mc mX11_costOfTried) 106 = .ok (.aload_n 0, 1) := by decide +kernel
theorem dX11_costOfTried_107 : decode (mc mX11_costOfTried) 107 = .ok (.getfield 41, 3) := by decide +kernel
theorem dX11_costOfTried_110 : decode (mc mX11_costOfTried) 110 = .ok (.iload 5, 2) := by decide +kernel
theorem dX11_costOfTried_112 : decode (mc mX11_costOfTried) 112 = .ok (.iaload, 1) := by decide +kernel
theorem dX11_costOfTried_113 : decode (mc mX11_costOfTried) 113 = .ok (.iadd, 1) := by decide +kernel
theorem dX11_costOfTried_114 : decode (mc mX11_costOfTried) 114 = .ok (.iaload, 1) := by decide +kernel
theorem dX11_costOfTried_115 : decode (mc mX11_costOfTried) 115 = .ok (.iload_n 2, 1) := by decide +kernel
theorem dX11_costOfTried_116 : decode (mc mX11_costOfTried) 116 = .ok (.invokestatic 165, 3) := by decide +kernel
theorem dX11_costOfTried_119 : decode (mc mX11_costOfTried) 119 = .ok (.ifCond .eq 10, 3) := by decide +kernel
theorem dX11_costOfTried_122 : decode (mc mX11_costOfTried) 122 = .ok (.iconst 1, 1) := by decide +kernel
theorem dX11_costOfTried_123 : decode (mc mX11_costOfTried) 123 = .ok (.iload 5, 2) := by decide +kernel
theorem dX11_costOfTried_125 : decode (mc mX11_costOfTried) 125 = .ok (.ishl, 1) := by decide +kernel
theorem dX11_costOfTried_126 : decode (mc mX11_costOfTried) 126 = .ok (.goto 4, 3) := by decide +kernel
theorem dX11_costOfTried_129 : decode (mc mX11_costOfTried) 129 = .ok (.iconst 0, 1) := by decide +kernel
theorem dX11_costOfTried_130 : decode (mc mX11_costOfTried) 130 = .ok (.ior, 1) := by decide +kernel
theorem dX11_costOfTried_131 : decode (mc mX11_costOfTried) 131 = .ok (.istore 4, 2) := by decide +kernel
theorem dX11_costOfTried_133 : decode (mc mX11_costOfTried) 133 = .ok (.iinc 5 1, 3) := by decide +kernel
theorem dX11_costOfTried_136 : decode (mc mX11_costOfTried) 136 = .ok (.goto (-77), 3) := by decide +kernel
theorem dX11_costOfTried_139 : decode (mc mX11_costOfTried) 139 = .ok (.aload_n 0, 1) := by decide +kernel
theorem dX11_costOfTried_140 : decode (mc mX11_costOfTried) 140 = .ok (.getfield 25, 3) := by decide +kernel
theorem dX11_costOfTried_143 : decode (mc mX11_costOfTried) 143 = .ok (.bipush 8, 2) := by decide +kernel
theorem dX11_costOfTried_145 : decode (mc mX11_costOfTried) 145 = .ok (.bipush 8, 2) := by decide +kernel
theorem dX11_costOfTried_147 : decode (mc mX11_costOfTried) 147 = .ok (.iload_n 2, 1) := by decide +kernel
theorem dX11_costOfTried_148 : decode (mc mX11_costOfTried) 148 = .ok (.imul, 1) := by decide +kernel
theorem dX11_costOfTried_149 : decode (mc mX11_costOfTried) 149 = .ok (.iload_n 3, 1) := by decide +kernel
theorem dX11_costOfTried_150 : decode (mc mX11_costOfTried) 150 = .ok (.iadd, 1) := by decide +kernel
theorem dX11_costOfTried_151 : decode (mc mX11_costOfTried) 151 = .ok (.imul, 1) := by decide +kernel
theorem dX11_costOfTried_152 : decode (mc mX11_costOfTried) 152 = .ok (.iload 4, 2) := by decide +kernel
theorem dX11_costOfTried_154 : decode (mc mX11_costOfTried) 154 = .ok (.iadd, 1) := by decide +kernel
theorem dX11_costOfTried_155 : decode (mc mX11_costOfTried) 155 = .ok (.iaload, 1) := by decide +kernel
theorem dX11_costOfTried_156 : decode (mc mX11_costOfTried) 156 = .ok (.istore 5, 2) := by decide +kernel
theorem dX11_costOfTried_158 : decode (mc mX11_costOfTried) 158 = .ok (.iload 5, 2) := by decide +kernel
theorem dX11_costOfTried_160 : decode (mc mX11_costOfTried) 160 = .ok (.ldc 189, 2) := by decide +kernel
theorem dX11_costOfTried_162 : decode (mc mX11_costOfTried) 162 = .ok (.if_icmp .ne 6, 3) := by decide +kernel
theorem dX11_costOfTried_165 : decode (mc mX11_costOfTried) 165 = .ok (.ldc 189, 2) := by decide +kernel
theorem dX11_costOfTried_167 : decode (mc mX11_costOfTried) 167 = .ok (.ireturn, 1) := by decide +kernel
theorem dX11_costOfTried_168 : decode (mc mX11_costOfTried) 168 = .ok (.iload_n 1, 1) := by decide +kernel
theorem dX11_costOfTried_169 : decode (mc mX11_costOfTried) 169 = .ok (.iload 5, 2) := by decide +kernel
theorem dX11_costOfTried_171 : decode (mc mX11_costOfTried) 171 = .ok (.iadd, 1) := by decide +kernel
theorem dX11_costOfTried_172 : decode (mc mX11_costOfTried) 172 = .ok (.istore_n 1, 1) := by decide +kernel
theorem dX11_costOfTried_173 : decode (mc mX11_costOfTried) 173 = .ok (.iinc 2 1, 3) := by decide +kernel
theorem dX11_costOfTried_176 : decode (mc mX11_costOfTried) 176 = .ok (.goto (-135), 3) := by decide +kernel
theorem dX11_costOfTried_179 : decode (mc mX11_costOfTried) 179 = .ok (.iload_n 1, 1) := by decide +kernel
theorem dX11_costOfTried_180 : decode (mc mX11_costOfTried) 180 = .ok (.ireturn, 1) := by decide +kernel
theorem dX11_tries_0 : decode (mc mX11_tries) 0 = .ok (.iload_n 1, 1) := by decide +kernel
theorem dX11_tries_1 : decode (mc mX11_tries) 1 = .ok (.aload_n 0, 1) := by decide +kernel
theorem dX11_tries_2 : decode (mc mX11_tries) 2 = .ok (.getfield 9, 3) := by decide +kernel
theorem dX11_tries_5 : decode (mc mX11_tries) 5 = .ok (.iconst 3, 1) := by decide +kernel
theorem dX11_tries_6 : decode (mc mX11_tries) 6 = .ok (.iaload, 1) := by decide +kernel
theorem dX11_tries_7 : decode (mc mX11_tries) 7 = .ok (.if_icmp .ne 47, 3) := by decide +kernel
theorem dX11_tries_10 : decode (mc mX11_tries) 10 = .ok (.aload_n 0, 1) := by decide +kernel
theorem dX11_tries_11 : decode (mc mX11_tries) 11 = .ok (.invokevirtual 203, 3) := by decide +kernel
theorem dX11_tries_14 : decode (mc mX11_tries) 14 = .ok (.istore_n 2, 1) := by decide +kernel
theorem dX11_tries_15 : decode (mc mX11_tries) 15 = .ok (.iload_n 2, 1) := by decide +kernel
theorem dX11_tries_16 : decode (mc mX11_tries) 16 = .ok (.aload_n 0, 1) := by decide +kernel
theorem dX11_tries_17 : decode (mc mX11_tries) 17 = .ok (.getfield 207, 3) := by decide +kernel
theorem dX11_tries_20 : decode (mc mX11_tries) 20 = .ok (.if_icmp .ge 33, 3) := by decide +kernel
theorem dX11_tries_23 : decode (mc mX11_tries) 23 = .ok (.aload_n 0, 1) := by decide +kernel
theorem dX11_tries_24 : decode (mc mX11_tries) 24 = .ok (.iload_n 2, 1) := by decide +kernel
theorem dX11_tries_25 : decode (mc mX11_tries) 25 = .ok (.putfield 207, 3) := by decide +kernel
theorem dX11_tries_28 : decode (mc mX11_tries) 28 = .ok (.iconst 0, 1) := by decide +kernel
theorem dX11_tries_29 : decode (mc mX11_tries) 29 = .ok (.istore_n 3, 1) := by decide +kernel
theorem dX11_tries_30 : decode (mc mX11_tries) 30 = .ok (.iload_n 3, 1) := by decide +kernel
theorem dX11_tries_31 : decode (mc mX11_tries) 31 = .ok (.iconst 3, 1) := by decide +kernel
theorem dX11_tries_32 : decode (mc mX11_tries) 32 = .ok (.if_icmp .ge 21, 3) := by decide +kernel
theorem dX11_tries_35 : decode (mc mX11_tries) 35 = .ok (.aload_n 0, 1) := by decide +kernel
theorem dX11_tries_36 : decode (mc mX11_tries) 36 = .ok (.getfield 38, 3) := by decide +kernel
theorem dX11_tries_39 : decode (mc mX11_tries) 39 = .ok (.iload_n 3, 1) := by decide +kernel
theorem dX11_tries_40 : decode (mc mX11_tries) 40 = .ok (.aload_n 0, 1) := by decide +kernel
theorem dX11_tries_41 : decode (mc mX11_tries) 41 = .ok (.getfield 41, 3) := by decide +kernel
theorem dX11_tries_44 : decode (mc mX11_tries) 44 = .ok (.iload_n 3, 1) := by decide +kernel
theorem dX11_tries_45 : decode (mc mX11_tries) 45 = .ok (.iaload, 1) := by decide +kernel
theorem dX11_tries_46 : decode (mc mX11_tries) 46 = .ok (.iastore, 1) := by decide +kernel
theorem dX11_tries_47 : decode (mc mX11_tries) 47 = .ok (.iinc 3 1, 3) := by decide +kernel
theorem dX11_tries_50 : decode (mc mX11_tries) 50 = .ok (.goto (-20), 3) := by decide +kernel
theorem dX11_tries_53 : decode (mc mX11_tries) 53 = .ok (.return_, 1) := by decide +kernel
theorem dX11_tries_54 : decode (mc mX11_tries) 54 = .ok (.iconst 0, 1) := by decide +kernel
theorem dX11_tries_55 : decode (mc mX11_tries) 55 = .ok (.istore_n 2, 1) := by decide +kernel
theorem dX11_tries_56 : decode (mc mX11_tries) 56 = .ok (.iload_n 2, 1) := by decide +kernel
theorem dX11_tries_57 : decode (mc mX11_tries) 57 = .ok (.iconst 1, 1) := by decide +kernel
theorem dX11_tries_58 : decode (mc mX11_tries) 58 = .ok (.aload_n 0, 1) := by decide +kernel
theorem dX11_tries_59 : decode (mc mX11_tries) 59 = .ok (.getfield 9, 3) := by decide +kernel
theorem dX11_tries_62 : decode (mc mX11_tries) 62 = .ok (.iconst 0, 1) := by decide +kernel
theorem dX11_tries_63 : decode (mc mX11_tries) 63 = .ok (.iaload, 1) := by decide +kernel
theorem dX11_tries_64 : decode (mc mX11_tries) 64 = .ok (.ishl, 1) := by decide +kernel
theorem dX11_tries_65 : decode (mc mX11_tries) 65 = .ok (.if_icmp .ge 37, 3) := by decide +kernel
theorem dX11_tries_68 : decode (mc mX11_tries) 68 = .ok (.aload_n 0, 1) := by decide +kernel
theorem dX11_tries_69 : decode (mc mX11_tries) 69 = .ok (.getfield 28, 3) := by decide +kernel
theorem dX11_tries_72 : decode (mc mX11_tries) 72 = .ok (.bipush 32, 2) := by decide +kernel
theorem dX11_tries_74 : decode (mc mX11_tries) 74 = .ok (.iload_n 1, 1) := by decide +kernel
theorem dX11_tries_75 : decode (mc mX11_tries) 75 = .ok (.imul, 1) := by decide +kernel
theorem dX11_tries_76 : decode (mc mX11_tries) 76 = .ok (.iload_n 2, 1) := by decide +kernel
theorem dX11_tries_77 : decode (mc mX11_tries) 77 = .ok (.iadd, 1) := by decide +kernel
theorem dX11_tries_78 : decode (mc mX11_tries) 78 = .ok (.baload, 1) := by decide +kernel
theorem dX11_tries_79 : decode (mc mX11_tries) 79 = .ok (.ifCond .eq 17, 3) := by decide +kernel
theorem dX11_tries_82 : decode (mc mX11_tries) 82 = .ok (.aload_n 0, 1) := by decide +kernel
theorem dX11_tries_83 : decode (mc mX11_tries) 83 = .ok (.getfield 41, 3) := by decide +kernel
theorem dX11_tries_86 : decode (mc mX11_tries) 86 = .ok (.iload_n 1, 1) := by decide +kernel
theorem dX11_tries_87 : decode (mc mX11_tries) 87 = .ok (.iload_n 2, 1) := by decide +kernel
theorem dX11_tries_88 : decode (mc mX11_tries) 88 = .ok (.iastore, 1) := by decide +kernel
theorem dX11_tries_89 : decode (mc mX11_tries) 89 = .ok (.aload_n 0, 1) := by decide +kernel
theorem dX11_tries_90 : decode (mc mX11_tries) 90 = .ok (.iload_n 1, 1) := by decide +kernel
theorem dX11_tries_91 : decode (mc mX11_tries) 91 = .ok (.iconst 1, 1) := by decide +kernel
theorem dX11_tries_92 : decode (mc mX11_tries) 92 = .ok (.iadd, 1) := by decide +kernel
theorem dX11_tries_93 : decode (mc mX11_tries) 93 = .ok (.invokevirtual 210, 3) := by decide +kernel
theorem dX11_tries_96 : decode (mc mX11_tries) 96 = .ok (.iinc 2 1, 3) := by decide +kernel
theorem dX11_tries_99 : decode (mc mX11_tries) 99 = .ok (.goto (-43), 3) := by decide +kernel
theorem dX11_tries_102 : decode (mc mX11_tries) 102 = .ok (.return_, 1) := by decide +kernel
theorem dX11_bests_0 : decode (mc mX11_bests) 0 = .ok (.iconst 0, 1) := by decide +kernel
theorem dX11_bests_1 : decode (mc mX11_bests) 1 = .ok (.istore_n 1, 1) := by decide +kernel
theorem dX11_bests_2 : decode (mc mX11_bests) 2 = .ok (.iload_n 1, 1) := by decide +kernel
theorem dX11_bests_3 : decode (mc mX11_bests) 3 = .ok (.aload_n 0, 1) := by decide +kernel
theorem dX11_bests_4 : decode (mc mX11_bests) 4 = .ok (.getfield 9, 3) := by decide +kernel
theorem dX11_bests_7 : decode (mc mX11_bests) 7 = .ok (.iconst 3, 1) := by decide +kernel
theorem dX11_bests_8 : decode (mc mX11_bests) 8 = .ok (.iaload, 1) := by decide +kernel
theorem dX11_bests_9 : decode (mc mX11_bests) 9 = .ok (.if_icmp .ge 14, 3) := by decide +kernel
theorem dX11_bests_12 : decode (mc mX11_bests) 12 = .ok (.aload_n 0, 1) := by decide +kernel
theorem dX11_bests_13 : decode (mc mX11_bests) 13 = .ok (.iload_n 1, 1) := by decide +kernel
theorem dX11_bests_14 : decode (mc mX11_bests) 14 = .ok (.invokevirtual 214, 3) := by decide +kernel
theorem dX11_bests_17 : decode (mc mX11_bests) 17 = .ok (.iinc 1 1, 3) := by decide +kernel
theorem dX11_bests_20 : decode (mc mX11_bests) 20 = .ok (.goto (-18), 3) := by decide +kernel
theorem dX11_bests_23 : decode (mc mX11_bests) 23 = .ok (.aload_n 0, 1) := by decide +kernel
theorem dX11_bests_24 : decode (mc mX11_bests) 24 = .ok (.invokevirtual 217, 3) := by decide +kernel
theorem dX11_bests_27 : decode (mc mX11_bests) 27 = .ok (.aload_n 0, 1) := by decide +kernel
theorem dX11_bests_28 : decode (mc mX11_bests) 28 = .ok (.ldc 189, 2) := by decide +kernel
theorem dX11_bests_30 : decode (mc mX11_bests) 30 = .ok (.putfield 207, 3) := by decide +kernel
theorem dX11_bests_33 : decode (mc mX11_bests) 33 = .ok (.aload_n 0, 1) := by decide +kernel
theorem dX11_bests_34 : decode (mc mX11_bests) 34 = .ok (.iconst 0, 1) := by decide +kernel
theorem dX11_bests_35 : decode (mc mX11_bests) 35 = .ok (.invokevirtual 210, 3) := by decide +kernel
theorem dX11_bests_38 : decode (mc mX11_bests) 38 = .ok (.aload_n 0, 1) := by decide +kernel
theorem dX11_bests_39 : decode (mc mX11_bests) 39 = .ok (.getfield 207, 3) := by decide +kernel
theorem dX11_bests_42 : decode (mc mX11_bests) 42 = .ok (.ldc 189, 2) := by decide +kernel
theorem dX11_bests_44 : decode (mc mX11_bests) 44 = .ok (.if_icmp .ne 8, 3) := by decide +kernel
theorem dX11_bests_47 : decode (mc mX11_bests) 47 = .ok (.bipush (-9), 2) := by decide +kernel
theorem dX11_bests_49 : decode (mc mX11_bests) 49 = .ok (.goto 7, 3) := by decide +kernel
theorem dX11_bests_52 : decode (mc mX11_bests) 52 = .ok (.aload_n 0, 1) := by decide +kernel
theorem dX11_bests_53 : decode (mc mX11_bests) 53 = .ok (.getfield 207, 3) := by decide +kernel
theorem dX11_bests_56 : decode (mc mX11_bests) 56 = .ok (.ireturn, 1) := by decide +kernel
theorem dX11_best_0 : decode (mc mX11_best) 0 = .ok (.aload_n 0, 1) := by decide +kernel
theorem dX11_best_1 : decode (mc mX11_best) 1 = .ok (.invokevirtual 220, 3) := by decide +kernel
theorem dX11_best_4 : decode (mc mX11_best) 4 = .ok (.ireturn, 1) := by decide +kernel
theorem dX11_row_0 : decode (mc mX11_row) 0 = .ok (.aload_n 0, 1) := by decide +kernel
theorem dX11_row_1 : decode (mc mX11_row) 1 = .ok (.iload_n 1, 1) := by decide +kernel
theorem dX11_row_2 : decode (mc mX11_row) 2 = .ok (.invokevirtual 124, 3) := by decide +kernel
theorem dX11_row_5 : decode (mc mX11_row) 5 = .ok (.ifCond .ne 9, 3) := by decide +kernel
theorem dX11_row_8 : decode (mc mX11_row) 8 = .ok (.aload_n 0, 1) := by decide +kernel
theorem dX11_row_9 : decode (mc mX11_row) 9 = .ok (.iconst (-1), 1) := by decide +kernel
theorem dX11_row_10 : decode (mc mX11_row) 10 = .ok (.invokevirtual 79, 3) := by decide +kernel
theorem dX11_row_13 : decode (mc mX11_row) 13 = .ok (.ireturn, 1) := by decide +kernel
theorem dX11_row_14 : decode (mc mX11_row) 14 = .ok (.aload_n 0, 1) := by decide +kernel
theorem dX11_row_15 : decode (mc mX11_row) 15 = .ok (.invokevirtual 220, 3) := by decide +kernel
theorem dX11_row_18 : decode (mc mX11_row) 18 = .ok (.bipush (-9), 2) := by decide +kernel
theorem dX11_row_20 : decode (mc mX11_row) 20 = .ok (.if_icmp .ne 8, 3) := by decide +kernel
theorem dX11_row_23 : decode (mc mX11_row) 23 = .ok (.bipush (-9), 2) := by decide +kernel
theorem dX11_row_25 : decode (mc mX11_row) 25 = .ok (.goto 9, 3) := by decide +kernel
theorem dX11_row_28 : decode (mc mX11_row) 28 = .ok (.aload_n 0, 1) := by decide +kernel
theorem dX11_row_29 : decode (mc mX11_row) 29 = .ok (.getfield 38, 3) := by decide +kernel
theorem dX11_row_32 : decode (mc mX11_row) 32 = .ok (.iload_n 1, 1) := by decide +kernel
theorem dX11_row_33 : decode (mc mX11_row) 33 = .ok (.iaload, 1) := by decide +kernel
theorem dX11_row_34 : decode (mc mX11_row) 34 = .ok (.ireturn, 1) := by decide +kernel
theorem dX11_hourBest_0 : decode (mc mX11_hourBest) 0 = .ok (.iconst 0, 1) := by decide +kernel
theorem dX11_hourBest_1 : decode (mc mX11_hourBest) 1 = .ok (.istore_n 2, 1) := by decide +kernel
theorem dX11_hourBest_2 : decode (mc mX11_hourBest) 2 = .ok (.iconst 0, 1) := by decide +kernel
theorem dX11_hourBest_3 : decode (mc mX11_hourBest) 3 = .ok (.istore_n 3, 1) := by decide +kernel
theorem dX11_hourBest_4 : decode (mc mX11_hourBest) 4 = .ok (.iconst 0, 1) := by decide +kernel
theorem dX11_hourBest_5 : decode (mc mX11_hourBest) 5 = .ok (.istore 4, 2) := by decide +kernel
theorem dX11_hourBest_7 : decode (mc mX11_hourBest) 7 = .ok (.iconst 0, 1) := by decide +kernel
theorem dX11_hourBest_8 : decode (mc mX11_hourBest) 8 = .ok (.istore 5, 2) := by decide +kernel
theorem dX11_hourBest_10 : decode (mc mX11_hourBest) 10 = .ok (.iload 5, 2) := by decide +kernel
theorem dX11_hourBest_12 : decode (mc mX11_hourBest) 12 = .ok (.aload_n 0, 1) := by decide +kernel
theorem dX11_hourBest_13 : decode (mc mX11_hourBest) 13 = .ok (.getfield 9, 3) := by decide +kernel
theorem dX11_hourBest_16 : decode (mc mX11_hourBest) 16 = .ok (.iconst 3, 1) := by decide +kernel
theorem dX11_hourBest_17 : decode (mc mX11_hourBest) 17 = .ok (.iaload, 1) := by decide +kernel
theorem dX11_hourBest_18 : decode (mc mX11_hourBest) 18 = .ok (.if_icmp .ge 113, 3) := by decide +kernel
theorem dX11_hourBest_21 : decode (mc mX11_hourBest) 21 = .ok (.aload_n 0, 1) := by decide +kernel
theorem dX11_hourBest_22 : decode (mc mX11_hourBest) 22 = .ok (.iload 5, 2) := by decide +kernel
theorem dX11_hourBest_24 : decode (mc mX11_hourBest) 24 = .ok (.bipush 9, 2) := by decide +kernel
theorem dX11_hourBest_26 : decode (mc mX11_hourBest) 26 = .ok (.invokevirtual 130, 3) := by decide +kernel
theorem dX11_hourBest_29 : decode (mc mX11_hourBest) 29 = .ok (.istore 6, 2) := by decide +kernel
theorem dX11_hourBest_31 : decode (mc mX11_hourBest) 31 = .ok (.iconst 0, 1) := by decide +kernel
theorem dX11_hourBest_32 : decode (mc mX11_hourBest) 32 = .ok (.istore 7, 2) := by decide +kernel
theorem dX11_hourBest_34 : decode (mc mX11_hourBest) 34 = .ok (.iload 7, 2) := by decide +kernel
theorem dX11_hourBest_36 : decode (mc mX11_hourBest) 36 = .ok (.iload_n 1, 1) := by decide +kernel
theorem dX11_hourBest_37 : decode (mc mX11_hourBest) 37 = .ok (.if_icmp .ge 28, 3) := by decide +kernel
theorem dX11_hourBest_40 : decode (mc mX11_hourBest) 40 = .ok (.iload 6, 2) := by decide +kernel
theorem dX11_hourBest_42 : decode (mc mX11_hourBest) 42 = .ok (.aload_n 0, 1) := by decide +kernel
theorem dX11_hourBest_43 : decode (mc mX11_hourBest) 43 = .ok (.getfield 38, 3) := by decide +kernel
theorem dX11_hourBest_46 : decode (mc mX11_hourBest) 46 = .ok (.iload 5, 2) := by decide +kernel
theorem dX11_hourBest_48 : decode (mc mX11_hourBest) 48 = .ok (.iaload, 1) := by decide +kernel
theorem dX11_hourBest_49 : decode (mc mX11_hourBest) 49 = .ok (.iload 7, 2) := by decide +kernel
theorem dX11_hourBest_51 : decode (mc mX11_hourBest) 51 = .ok (.invokestatic 165, 3) := by decide +kernel
theorem dX11_hourBest_54 : decode (mc mX11_hourBest) 54 = .ok (.invokestatic 173, 3) := by decide +kernel
theorem dX11_hourBest_57 : decode (mc mX11_hourBest) 57 = .ok (.istore 6, 2) := by decide +kernel
theorem dX11_hourBest_59 : decode (mc mX11_hourBest) 59 = .ok (.iinc 7 1, 3) := by decide +kernel
theorem dX11_hourBest_62 : decode (mc mX11_hourBest) 62 = .ok (.goto (-28), 3) := by decide +kernel
theorem dX11_hourBest_65 : decode (mc mX11_hourBest) 65 = .ok (.aload_n 0, 1) := by decide +kernel
theorem dX11_hourBest_66 : decode (mc mX11_hourBest) 66 = .ok (.getfield 38, 3) := by decide +kernel
theorem dX11_hourBest_69 : decode (mc mX11_hourBest) 69 = .ok (.iload 5, 2) := by decide +kernel
theorem dX11_hourBest_71 : decode (mc mX11_hourBest) 71 = .ok (.iaload, 1) := by decide +kernel
theorem dX11_hourBest_72 : decode (mc mX11_hourBest) 72 = .ok (.iload_n 1, 1) := by decide +kernel
theorem dX11_hourBest_73 : decode (mc mX11_hourBest) 73 = .ok (.invokestatic 165, 3) := by decide +kernel
theorem dX11_hourBest_76 : decode (mc mX11_hourBest) 76 = .ok (.ifCond .eq 49, 3) := by decide +kernel
theorem dX11_hourBest_79 : decode (mc mX11_hourBest) 79 = .ok (.iload_n 2, 1) := by decide +kernel
theorem dX11_hourBest_80 : decode (mc mX11_hourBest) 80 = .ok (.iconst 1, 1) := by decide +kernel
theorem dX11_hourBest_81 : decode (mc mX11_hourBest) 81 = .ok (.iload 5, 2) := by decide +kernel
theorem dX11_hourBest_83 : decode (mc mX11_hourBest) 83 = .ok (.ishl, 1) := by decide +kernel
theorem dX11_hourBest_84 : decode (mc mX11_hourBest) 84 = .ok (.ior, 1) := by decide +kernel
theorem dX11_hourBest_85 : decode (mc mX11_hourBest) 85 = .ok (.istore_n 2, 1) := by decide +kernel
theorem dX11_hourBest_86 : decode (mc mX11_hourBest) 86 = .ok (.iload_n 3, 1) := by decide +kernel
theorem dX11_hourBest_87 : decode (mc mX11_hourBest) 87 = .ok (.iload 6, 2) := by decide +kernel
theorem dX11_hourBest_89 : decode (mc mX11_hourBest) 89 = .ok (.ifCond .ge 10, 3) := by decide +kernel
theorem dX11_hourBest_92 : decode (mc mX11_hourBest) 92 = .ok (.iconst 1, 1) := by decide +kernel
theorem dX11_hourBest_93 : decode (mc mX11_hourBest) 93 = .ok (.iload 5, 2) := by decide +kernel
theorem dX11_hourBest_95 : decode (mc mX11_hourBest) 95 = .ok (.ishl, 1) := by decide +kernel
theorem dX11_hourBest_96 : decode (mc mX11_hourBest) 96 = .ok (.goto 4, 3) := by decide +kernel
theorem dX11_hourBest_99 : decode (mc mX11_hourBest) 99 = .ok (.iconst 0, 1) := by decide +kernel
theorem dX11_hourBest_100 : decode (mc mX11_hourBest) 100 = .ok (.ior, 1) := by decide +kernel
theorem dX11_hourBest_101 : decode (mc mX11_hourBest) 101 = .ok (.istore_n 3, 1) := by decide +kernel
theorem dX11_hourBest_102 : decode (mc mX11_hourBest) 102 = .ok (.iload 4, 2) := by decide +kernel
theorem dX11_hourBest_104 : decode (mc mX11_hourBest) 104 = .ok (.iload 6, 2) := by decide +kernel
theorem dX11_hourBest_106 : decode (mc mX11_hourBest) 106 = .ok (.ifCond .ge 15, 3) := by decide +kernel
theorem dX11_hourBest_109 : decode (mc mX11_hourBest) 109 = .ok (.aload_n 0, 1) := by decide +kernel
theorem dX11_hourBest_110 : decode (mc mX11_hourBest) 110 = .ok (.iload 5, 2) := by decide +kernel
theorem dX11_hourBest_112 : decode (mc mX11_hourBest) 112 = .ok (.iload 6, 2) := by decide +kernel
theorem dX11_hourBest_114 : decode (mc mX11_hourBest) 114 = .ok (.ineg, 1) := by decide +kernel
theorem dX11_hourBest_115 : decode (mc mX11_hourBest) 115 = .ok (.invokevirtual 162, 3) := by decide +kernel
theorem dX11_hourBest_118 : decode (mc mX11_hourBest) 118 = .ok (.goto 4, 3) := by decide +kernel
theorem dX11_hourBest_121 : decode (mc mX11_hourBest) 121 = .ok (.iconst 0, 1) := by decide +kernel
theorem dX11_hourBest_122 : decode (mc mX11_hourBest) 122 = .ok (.iadd, 1) := by decide +kernel
theorem dX11_hourBest_123 : decode (mc mX11_hourBest) 123 = .ok (.istore 4, 2) := by decide +kernel
theorem dX11_hourBest_125 : decode (mc mX11_hourBest) 125 = .ok (.iinc 5 1, 3) := by decide +kernel
theorem dX11_hourBest_128 : decode (mc mX11_hourBest) 128 = .ok (.goto (-118), 3) := by decide +kernel
theorem dX11_hourBest_131 : decode (mc mX11_hourBest) 131 = .ok (.iload 4, 2) := by decide +kernel
theorem dX11_hourBest_133 : decode (mc mX11_hourBest) 133 = .ok (.aload_n 0, 1) := by decide +kernel
theorem dX11_hourBest_134 : decode (mc mX11_hourBest) 134 = .ok (.iload_n 1, 1) := by decide +kernel
theorem dX11_hourBest_135 : decode (mc mX11_hourBest) 135 = .ok (.iload_n 2, 1) := by decide +kernel
theorem dX11_hourBest_136 : decode (mc mX11_hourBest) 136 = .ok (.iload_n 3, 1) := by decide +kernel
theorem dX11_hourBest_137 : decode (mc mX11_hourBest) 137 = .ok (.invokevirtual 196, 3) := by decide +kernel
theorem dX11_hourBest_140 : decode (mc mX11_hourBest) 140 = .ok (.iadd, 1) := by decide +kernel
theorem dX11_hourBest_141 : decode (mc mX11_hourBest) 141 = .ok (.ireturn, 1) := by decide +kernel
theorem dX11_cost_0 : decode (mc mX11_cost) 0 = .ok (.aload_n 0, 1) := by decide +kernel
theorem dX11_cost_1 : decode (mc mX11_cost) 1 = .ok (.iload_n 1, 1) := by decide +kernel
theorem dX11_cost_2 : decode (mc mX11_cost) 2 = .ok (.invokevirtual 100, 3) := by decide +kernel
theorem dX11_cost_5 : decode (mc mX11_cost) 5 = .ok (.ifCond .ne 9, 3) := by decide +kernel
theorem dX11_cost_8 : decode (mc mX11_cost) 8 = .ok (.aload_n 0, 1) := by decide +kernel
theorem dX11_cost_9 : decode (mc mX11_cost) 9 = .ok (.iconst (-1), 1) := by decide +kernel
theorem dX11_cost_10 : decode (mc mX11_cost) 10 = .ok (.invokevirtual 79, 3) := by decide +kernel
theorem dX11_cost_13 : decode (mc mX11_cost) 13 = .ok (.ireturn, 1) := by decide +kernel
theorem dX11_cost_14 : decode (mc mX11_cost) 14 = .ok (.aload_n 0, 1) := by decide +kernel
theorem dX11_cost_15 : decode (mc mX11_cost) 15 = .ok (.invokevirtual 220, 3) := by decide +kernel
theorem dX11_cost_18 : decode (mc mX11_cost) 18 = .ok (.bipush (-9), 2) := by decide +kernel
theorem dX11_cost_20 : decode (mc mX11_cost) 20 = .ok (.if_icmp .ne 8, 3) := by decide +kernel
theorem dX11_cost_23 : decode (mc mX11_cost) 23 = .ok (.bipush (-9), 2) := by decide +kernel
theorem dX11_cost_25 : decode (mc mX11_cost) 25 = .ok (.goto 8, 3) := by decide +kernel
theorem dX11_cost_28 : decode (mc mX11_cost) 28 = .ok (.aload_n 0, 1) := by decide +kernel
theorem dX11_cost_29 : decode (mc mX11_cost) 29 = .ok (.iload_n 1, 1) := by decide +kernel
theorem dX11_cost_30 : decode (mc mX11_cost) 30 = .ok (.invokevirtual 223, 3) := by decide +kernel
theorem dX11_cost_33 : decode (mc mX11_cost) 33 = .ok (.ireturn, 1) := by decide +kernel
theorem dX11_margin_0 : decode (mc mX11_margin) 0 = .ok (.aload_n 0, 1) := by decide +kernel
theorem dX11_margin_1 : decode (mc mX11_margin) 1 = .ok (.iload_n 1, 1) := by decide +kernel
theorem dX11_margin_2 : decode (mc mX11_margin) 2 = .ok (.invokevirtual 100, 3) := by decide +kernel
theorem dX11_margin_5 : decode (mc mX11_margin) 5 = .ok (.ifCond .ne 9, 3) := by decide +kernel
theorem dX11_margin_8 : decode (mc mX11_margin) 8 = .ok (.aload_n 0, 1) := by decide +kernel
theorem dX11_margin_9 : decode (mc mX11_margin) 9 = .ok (.iconst (-1), 1) := by decide +kernel
theorem dX11_margin_10 : decode (mc mX11_margin) 10 = .ok (.invokevirtual 79, 3) := by decide +kernel
theorem dX11_margin_13 : decode (mc mX11_margin) 13 = .ok (.ireturn, 1) := by decide +kernel
theorem dX11_margin_14 : decode (mc mX11_margin) 14 = .ok (.aload_n 0, 1) := by decide +kernel
theorem dX11_margin_15 : decode (mc mX11_margin) 15 = .ok (.invokevirtual 220, 3) := by decide +kernel
theorem dX11_margin_18 : decode (mc mX11_margin) 18 = .ok (.istore_n 2, 1) := by decide +kernel
theorem dX11_margin_19 : decode (mc mX11_margin) 19 = .ok (.aload_n 0, 1) := by decide +kernel
theorem dX11_margin_20 : decode (mc mX11_margin) 20 = .ok (.getfield 9, 3) := by decide +kernel
theorem dX11_margin_23 : decode (mc mX11_margin) 23 = .ok (.iconst 4, 1) := by decide +kernel
theorem dX11_margin_24 : decode (mc mX11_margin) 24 = .ok (.iload_n 1, 1) := by decide +kernel
theorem dX11_margin_25 : decode (mc mX11_margin) 25 = .ok (.iadd, 1) := by decide +kernel
theorem dX11_margin_26 : decode (mc mX11_margin) 26 = .ok (.dup2, 1) := by decide +kernel
theorem dX11_margin_27 : decode (mc mX11_margin) 27 = .ok (.iaload, 1) := by decide +kernel
theorem dX11_margin_28 : decode (mc mX11_margin) 28 = .ok (.iconst 1, 1) := by decide +kernel
theorem dX11_margin_29 : decode (mc mX11_margin) 29 = .ok (.iadd, 1) := by decide +kernel
theorem dX11_margin_30 : decode (mc mX11_margin) 30 = .ok (.iastore, 1) := by decide +kernel
theorem dX11_margin_31 : decode (mc mX11_margin) 31 = .ok (.aload_n 0, 1) := by decide +kernel
theorem dX11_margin_32 : decode (mc mX11_margin) 32 = .ok (.invokevirtual 220, 3) := by decide +kernel
theorem dX11_margin_35 : decode (mc mX11_margin) 35 = .ok (.istore_n 3, 1) := by decide +kernel
theorem dX11_margin_36 : decode (mc mX11_margin) 36 = .ok (.aload_n 0, 1) := by decide +kernel
theorem dX11_margin_37 : decode (mc mX11_margin) 37 = .ok (.getfield 9, 3) := by decide +kernel
theorem dX11_margin_40 : decode (mc mX11_margin) 40 = .ok (.iconst 4, 1) := by decide +kernel
theorem dX11_margin_41 : decode (mc mX11_margin) 41 = .ok (.iload_n 1, 1) := by decide +kernel
theorem dX11_margin_42 : decode (mc mX11_margin) 42 = .ok (.iadd, 1) := by decide +kernel
theorem dX11_margin_43 : decode (mc mX11_margin) 43 = .ok (.dup2, 1) := by decide +kernel
theorem dX11_margin_44 : decode (mc mX11_margin) 44 = .ok (.iaload, 1) := by decide +kernel
theorem dX11_margin_45 : decode (mc mX11_margin) 45 = .ok (.iconst 1, 1) := by decide +kernel
theorem dX11_margin_46 : decode (mc mX11_margin) 46 = .ok (.isub, 1) := by decide +kernel
theorem dX11_margin_47 : decode (mc mX11_margin) 47 = .ok (.iastore, 1) := by decide +kernel
theorem dX11_margin_48 : decode (mc mX11_margin) 48 = .ok (.iload_n 2, 1) := by decide +kernel
theorem dX11_margin_49 : decode (mc mX11_margin) 49 = .ok (.bipush (-9), 2) := by decide +kernel
theorem dX11_margin_51 : decode (mc mX11_margin) 51 = .ok (.if_icmp .eq 9, 3) := by decide +kernel
theorem dX11_margin_54 : decode (mc mX11_margin) 54 = .ok (.iload_n 3, 1) := by decide +kernel
theorem dX11_margin_55 : decode (mc mX11_margin) 55 = .ok (.bipush (-9), 2) := by decide +kernel
theorem dX11_margin_57 : decode (mc mX11_margin) 57 = .ok (.if_icmp .ne 8, 3) := by decide +kernel
theorem dX11_margin_60 : decode (mc mX11_margin) 60 = .ok (.ldc 226, 2) := by decide +kernel
theorem dX11_margin_62 : decode (mc mX11_margin) 62 = .ok (.goto 6, 3) := by decide +kernel
theorem dX11_margin_65 : decode (mc mX11_margin) 65 = .ok (.iload_n 3, 1) := by decide +kernel
theorem dX11_margin_66 : decode (mc mX11_margin) 66 = .ok (.iload_n 2, 1) := by decide +kernel
theorem dX11_margin_67 : decode (mc mX11_margin) 67 = .ok (.isub, 1) := by decide +kernel
theorem dX11_margin_68 : decode (mc mX11_margin) 68 = .ok (.ireturn, 1) := by decide +kernel
theorem dX11_worth_0 : decode (mc mX11_worth) 0 = .ok (.aload_n 0, 1) := by decide +kernel
theorem dX11_worth_1 : decode (mc mX11_worth) 1 = .ok (.iload_n 1, 1) := by decide +kernel
theorem dX11_worth_2 : decode (mc mX11_worth) 2 = .ok (.invokevirtual 124, 3) := by decide +kernel
theorem dX11_worth_5 : decode (mc mX11_worth) 5 = .ok (.ifCond .ne 9, 3) := by decide +kernel
theorem dX11_worth_8 : decode (mc mX11_worth) 8 = .ok (.aload_n 0, 1) := by decide +kernel
theorem dX11_worth_9 : decode (mc mX11_worth) 9 = .ok (.iconst (-1), 1) := by decide +kernel
theorem dX11_worth_10 : decode (mc mX11_worth) 10 = .ok (.invokevirtual 79, 3) := by decide +kernel
theorem dX11_worth_13 : decode (mc mX11_worth) 13 = .ok (.ireturn, 1) := by decide +kernel
theorem dX11_worth_14 : decode (mc mX11_worth) 14 = .ok (.aload_n 0, 1) := by decide +kernel
theorem dX11_worth_15 : decode (mc mX11_worth) 15 = .ok (.invokevirtual 220, 3) := by decide +kernel
theorem dX11_worth_18 : decode (mc mX11_worth) 18 = .ok (.istore_n 2, 1) := by decide +kernel
theorem dX11_worth_19 : decode (mc mX11_worth) 19 = .ok (.aload_n 0, 1) := by decide +kernel
theorem dX11_worth_20 : decode (mc mX11_worth) 20 = .ok (.iconst 1, 1) := by decide +kernel
theorem dX11_worth_21 : decode (mc mX11_worth) 21 = .ok (.iload_n 1, 1) := by decide +kernel
theorem dX11_worth_22 : decode (mc mX11_worth) 22 = .ok (.ishl, 1) := by decide +kernel
theorem dX11_worth_23 : decode (mc mX11_worth) 23 = .ok (.putfield 199, 3) := by decide +kernel
theorem dX11_worth_26 : decode (mc mX11_worth) 26 = .ok (.aload_n 0, 1) := by decide +kernel
theorem dX11_worth_27 : decode (mc mX11_worth) 27 = .ok (.invokevirtual 220, 3) := by decide +kernel
theorem dX11_worth_30 : decode (mc mX11_worth) 30 = .ok (.istore_n 3, 1) := by decide +kernel
theorem dX11_worth_31 : decode (mc mX11_worth) 31 = .ok (.aload_n 0, 1) := by decide +kernel
theorem dX11_worth_32 : decode (mc mX11_worth) 32 = .ok (.iconst 0, 1) := by decide +kernel
theorem dX11_worth_33 : decode (mc mX11_worth) 33 = .ok (.putfield 199, 3) := by decide +kernel
theorem dX11_worth_36 : decode (mc mX11_worth) 36 = .ok (.iload_n 2, 1) := by decide +kernel
theorem dX11_worth_37 : decode (mc mX11_worth) 37 = .ok (.bipush (-9), 2) := by decide +kernel
theorem dX11_worth_39 : decode (mc mX11_worth) 39 = .ok (.if_icmp .eq 9, 3) := by decide +kernel
theorem dX11_worth_42 : decode (mc mX11_worth) 42 = .ok (.iload_n 3, 1) := by decide +kernel
theorem dX11_worth_43 : decode (mc mX11_worth) 43 = .ok (.bipush (-9), 2) := by decide +kernel
theorem dX11_worth_45 : decode (mc mX11_worth) 45 = .ok (.if_icmp .ne 8, 3) := by decide +kernel
theorem dX11_worth_48 : decode (mc mX11_worth) 48 = .ok (.ldc 226, 2) := by decide +kernel
theorem dX11_worth_50 : decode (mc mX11_worth) 50 = .ok (.goto 6, 3) := by decide +kernel
theorem dX11_worth_53 : decode (mc mX11_worth) 53 = .ok (.iload_n 3, 1) := by decide +kernel
theorem dX11_worth_54 : decode (mc mX11_worth) 54 = .ok (.iload_n 2, 1) := by decide +kernel
theorem dX11_worth_55 : decode (mc mX11_worth) 55 = .ok (.isub, 1) := by decide +kernel
theorem dX11_worth_56 : decode (mc mX11_worth) 56 = .ok (.ireturn, 1) := by decide +kernel
theorem dX11_isBestBy_0 : decode (mc mX11_isBestBy) 0 = .ok (.iconst 0, 1) := by decide +kernel
theorem dX11_isBestBy_1 : decode (mc mX11_isBestBy) 1 = .ok (.istore_n 2, 1) := by decide +kernel
theorem dX11_isBestBy_2 : decode (mc mX11_isBestBy) 2 = .ok (.iload_n 2, 1) := by decide +kernel
theorem dX11_isBestBy_3 : decode (mc mX11_isBestBy) 3 = .ok (.aload_n 0, 1) := by decide +kernel
theorem dX11_isBestBy_4 : decode (mc mX11_isBestBy) 4 = .ok (.getfield 9, 3) := by decide +kernel
theorem dX11_isBestBy_7 : decode (mc mX11_isBestBy) 7 = .ok (.iconst 0, 1) := by decide +kernel
theorem dX11_isBestBy_8 : decode (mc mX11_isBestBy) 8 = .ok (.iaload, 1) := by decide +kernel
theorem dX11_isBestBy_9 : decode (mc mX11_isBestBy) 9 = .ok (.if_icmp .ge 22, 3) := by decide +kernel
theorem dX11_isBestBy_12 : decode (mc mX11_isBestBy) 12 = .ok (.aload_n 0, 1) := by decide +kernel
theorem dX11_isBestBy_13 : decode (mc mX11_isBestBy) 13 = .ok (.getfield 9, 3) := by decide +kernel
theorem dX11_isBestBy_16 : decode (mc mX11_isBestBy) 16 = .ok (.bipush 9, 2) := by decide +kernel
theorem dX11_isBestBy_18 : decode (mc mX11_isBestBy) 18 = .ok (.iload_n 2, 1) := by decide +kernel
theorem dX11_isBestBy_19 : decode (mc mX11_isBestBy) 19 = .ok (.iadd, 1) := by decide +kernel
theorem dX11_isBestBy_20 : decode (mc mX11_isBestBy) 20 = .ok (.dup2, 1) := by decide +kernel
theorem dX11_isBestBy_21 : decode (mc mX11_isBestBy) 21 = .ok (.iaload, 1) := by decide +kernel
theorem dX11_isBestBy_22 : decode (mc mX11_isBestBy) 22 = .ok (.iload_n 1, 1) := by decide +kernel
theorem dX11_isBestBy_23 : decode (mc mX11_isBestBy) 23 = .ok (.iadd, 1) := by decide +kernel
theorem dX11_isBestBy_24 : decode (mc mX11_isBestBy) 24 = .ok (.iastore, 1) := by decide +kernel
theorem dX11_isBestBy_25 : decode (mc mX11_isBestBy) 25 = .ok (.iinc 2 1, 3) := by decide +kernel
theorem dX11_isBestBy_28 : decode (mc mX11_isBestBy) 28 = .ok (.goto (-26), 3) := by decide +kernel
theorem dX11_isBestBy_31 : decode (mc mX11_isBestBy) 31 = .ok (.aload_n 0, 1) := by decide +kernel
theorem dX11_isBestBy_32 : decode (mc mX11_isBestBy) 32 = .ok (.invokevirtual 220, 3) := by decide +kernel
theorem dX11_isBestBy_35 : decode (mc mX11_isBestBy) 35 = .ok (.bipush (-9), 2) := by decide +kernel
theorem dX11_isBestBy_37 : decode (mc mX11_isBestBy) 37 = .ok (.if_icmp .eq 7, 3) := by decide +kernel
theorem dX11_isBestBy_40 : decode (mc mX11_isBestBy) 40 = .ok (.iconst 1, 1) := by decide +kernel
theorem dX11_isBestBy_41 : decode (mc mX11_isBestBy) 41 = .ok (.goto 4, 3) := by decide +kernel
theorem dX11_isBestBy_44 : decode (mc mX11_isBestBy) 44 = .ok (.iconst 0, 1) := by decide +kernel
theorem dX11_isBestBy_45 : decode (mc mX11_isBestBy) 45 = .ok (.istore_n 2, 1) := by decide +kernel
theorem dX11_isBestBy_46 : decode (mc mX11_isBestBy) 46 = .ok (.iconst 0, 1) := by decide +kernel
theorem dX11_isBestBy_47 : decode (mc mX11_isBestBy) 47 = .ok (.istore_n 3, 1) := by decide +kernel
theorem dX11_isBestBy_48 : decode (mc mX11_isBestBy) 48 = .ok (.iload_n 3, 1) := by decide +kernel
theorem dX11_isBestBy_49 : decode (mc mX11_isBestBy) 49 = .ok (.aload_n 0, 1) := by decide +kernel
theorem dX11_isBestBy_50 : decode (mc mX11_isBestBy) 50 = .ok (.getfield 9, 3) := by decide +kernel
theorem dX11_isBestBy_53 : decode (mc mX11_isBestBy) 53 = .ok (.iconst 0, 1) := by decide +kernel
theorem dX11_isBestBy_54 : decode (mc mX11_isBestBy) 54 = .ok (.iaload, 1) := by decide +kernel
theorem dX11_isBestBy_55 : decode (mc mX11_isBestBy) 55 = .ok (.if_icmp .ge 22, 3) := by decide +kernel
theorem dX11_isBestBy_58 : decode (mc mX11_isBestBy) 58 = .ok (.aload_n 0, 1) := by decide +kernel
theorem dX11_isBestBy_59 : decode (mc mX11_isBestBy) 59 = .ok (.getfield 9, 3) := by decide +kernel
theorem dX11_isBestBy_62 : decode (mc mX11_isBestBy) 62 = .ok (.bipush 9, 2) := by decide +kernel
theorem dX11_isBestBy_64 : decode (mc mX11_isBestBy) 64 = .ok (.iload_n 3, 1) := by decide +kernel
theorem dX11_isBestBy_65 : decode (mc mX11_isBestBy) 65 = .ok (.iadd, 1) := by decide +kernel
theorem dX11_isBestBy_66 : decode (mc mX11_isBestBy) 66 = .ok (.dup2, 1) := by decide +kernel
theorem dX11_isBestBy_67 : decode (mc mX11_isBestBy) 67 = .ok (.iaload, 1) := by decide +kernel
theorem dX11_isBestBy_68 : decode (mc mX11_isBestBy) 68 = .ok (.iload_n 1, 1) := by decide +kernel
theorem dX11_isBestBy_69 : decode (mc mX11_isBestBy) 69 = .ok (.isub, 1) := by decide +kernel
theorem dX11_isBestBy_70 : decode (mc mX11_isBestBy) 70 = .ok (.iastore, 1) := by decide +kernel
theorem dX11_isBestBy_71 : decode (mc mX11_isBestBy) 71 = .ok (.iinc 3 1, 3) := by decide +kernel
theorem dX11_isBestBy_74 : decode (mc mX11_isBestBy) 74 = .ok (.goto (-26), 3) := by decide +kernel
theorem dX11_isBestBy_77 : decode (mc mX11_isBestBy) 77 = .ok (.iload_n 2, 1) := by decide +kernel
theorem dX11_isBestBy_78 : decode (mc mX11_isBestBy) 78 = .ok (.ireturn, 1) := by decide +kernel
theorem dX11_hand_0 : decode (mc mX11_hand) 0 = .ok (.aload_n 0, 1) := by decide +kernel
theorem dX11_hand_1 : decode (mc mX11_hand) 1 = .ok (.iconst 0, 1) := by decide +kernel
theorem dX11_hand_2 : decode (mc mX11_hand) 2 = .ok (.invokevirtual 227, 3) := by decide +kernel
theorem dX11_hand_5 : decode (mc mX11_hand) 5 = .ok (.ifCond .ne 6, 3) := by decide +kernel
theorem dX11_hand_8 : decode (mc mX11_hand) 8 = .ok (.bipush (-9), 2) := by decide +kernel
theorem dX11_hand_10 : decode (mc mX11_hand) 10 = .ok (.ireturn, 1) := by decide +kernel
theorem dX11_hand_11 : decode (mc mX11_hand) 11 = .ok (.iconst 0, 1) := by decide +kernel
theorem dX11_hand_12 : decode (mc mX11_hand) 12 = .ok (.istore_n 1, 1) := by decide +kernel
theorem dX11_hand_13 : decode (mc mX11_hand) 13 = .ok (.bipush 60, 2) := by decide +kernel
theorem dX11_hand_15 : decode (mc mX11_hand) 15 = .ok (.istore_n 2, 1) := by decide +kernel
theorem dX11_hand_16 : decode (mc mX11_hand) 16 = .ok (.iload_n 1, 1) := by decide +kernel
theorem dX11_hand_17 : decode (mc mX11_hand) 17 = .ok (.iload_n 2, 1) := by decide +kernel
theorem dX11_hand_18 : decode (mc mX11_hand) 18 = .ok (.if_icmp .ge 45, 3) := by decide +kernel
theorem dX11_hand_21 : decode (mc mX11_hand) 21 = .ok (.iload_n 1, 1) := by decide +kernel
theorem dX11_hand_22 : decode (mc mX11_hand) 22 = .ok (.iload_n 2, 1) := by decide +kernel
theorem dX11_hand_23 : decode (mc mX11_hand) 23 = .ok (.iadd, 1) := by decide +kernel
theorem dX11_hand_24 : decode (mc mX11_hand) 24 = .ok (.iconst 1, 1) := by decide +kernel
theorem dX11_hand_25 : decode (mc mX11_hand) 25 = .ok (.iadd, 1) := by decide +kernel
theorem dX11_hand_26 : decode (mc mX11_hand) 26 = .ok (.iconst 2, 1) := by decide +kernel
theorem dX11_hand_27 : decode (mc mX11_hand) 27 = .ok (.idiv, 1) := by decide +kernel
theorem dX11_hand_28 : decode (mc mX11_hand) 28 = .ok (.istore_n 3, 1) := by decide +kernel
theorem dX11_hand_29 : decode (mc mX11_hand) 29 = .ok (.aload_n 0, 1) := by decide +kernel
theorem dX11_hand_30 : decode (mc mX11_hand) 30 = .ok (.iload_n 3, 1) := by decide +kernel
theorem dX11_hand_31 : decode (mc mX11_hand) 31 = .ok (.invokevirtual 227, 3) := by decide +kernel
theorem dX11_hand_34 : decode (mc mX11_hand) 34 = .ok (.istore 4, 2) := by decide +kernel
theorem dX11_hand_36 : decode (mc mX11_hand) 36 = .ok (.iload 4, 2) := by decide +kernel
theorem dX11_hand_38 : decode (mc mX11_hand) 38 = .ok (.ifCond .eq 7, 3) := by decide +kernel
theorem dX11_hand_41 : decode (mc mX11_hand) 41 = .ok (.iload_n 3, 1) := by decide +kernel
theorem dX11_hand_42 : decode (mc mX11_hand) 42 = .ok (.goto 4, 3) := by decide +kernel
theorem dX11_hand_45 : decode (mc mX11_hand) 45 = .ok (.iload_n 1, 1) := by decide +kernel
theorem dX11_hand_46 : decode (mc mX11_hand) 46 = .ok (.istore_n 1, 1) := by decide +kernel
theorem dX11_hand_47 : decode (mc mX11_hand) 47 = .ok (.iload 4, 2) := by decide +kernel
theorem dX11_hand_49 : decode (mc mX11_hand) 49 = .ok (.ifCond .eq 7, 3) := by decide +kernel
theorem dX11_hand_52 : decode (mc mX11_hand) 52 = .ok (.iload_n 2, 1) := by decide +kernel
theorem dX11_hand_53 : decode (mc mX11_hand) 53 = .ok (.goto 6, 3) := by decide +kernel
theorem dX11_hand_56 : decode (mc mX11_hand) 56 = .ok (.iload_n 3, 1) := by decide +kernel
theorem dX11_hand_57 : decode (mc mX11_hand) 57 = .ok (.iconst 1, 1) := by decide +kernel
theorem dX11_hand_58 : decode (mc mX11_hand) 58 = .ok (.isub, 1) := by decide +kernel
theorem dX11_hand_59 : decode (mc mX11_hand) 59 = .ok (.istore_n 2, 1) := by decide +kernel
theorem dX11_hand_60 : decode (mc mX11_hand) 60 = .ok (.goto (-44), 3) := by decide +kernel
theorem dX11_hand_63 : decode (mc mX11_hand) 63 = .ok (.iload_n 1, 1) := by decide +kernel
theorem dX11_hand_64 : decode (mc mX11_hand) 64 = .ok (.ireturn, 1) := by decide +kernel
theorem dX11_lowest_0 : decode (mc mX11_lowest) 0 = .ok (.lload_n 0, 1) := by decide +kernel
theorem dX11_lowest_1 : decode (mc mX11_lowest) 1 = .ok (.lstore 5, 2) := by decide +kernel
theorem dX11_lowest_3 : decode (mc mX11_lowest) 3 = .ok (.lload_n 2, 1) := by decide +kernel
theorem dX11_lowest_4 : decode (mc mX11_lowest) 4 = .ok (.lstore 7, 2) := by decide +kernel
theorem dX11_lowest_6 : decode (mc mX11_lowest) 6 = .ok (.lload 7, 2) := by decide +kernel
theorem dX11_lowest_8 : decode (mc mX11_lowest) 8 = .ok (.lconst 0, 1) := by decide +kernel
theorem dX11_lowest_9 : decode (mc mX11_lowest) 9 = .ok (.lcmp, 1) := by decide +kernel
theorem dX11_lowest_10 : decode (mc mX11_lowest) 10 = .ok (.ifCond .eq 21, 3) := by decide +kernel
theorem dX11_lowest_13 : decode (mc mX11_lowest) 13 = .ok (.lload 5, 2) := by decide +kernel
theorem dX11_lowest_15 : decode (mc mX11_lowest) 15 = .ok (.lload 7, 2) := by decide +kernel
theorem dX11_lowest_17 : decode (mc mX11_lowest) 17 = .ok (.lrem, 1) := by decide +kernel
theorem dX11_lowest_18 : decode (mc mX11_lowest) 18 = .ok (.lstore 9, 2) := by decide +kernel
theorem dX11_lowest_20 : decode (mc mX11_lowest) 20 = .ok (.lload 7, 2) := by decide +kernel
theorem dX11_lowest_22 : decode (mc mX11_lowest) 22 = .ok (.lstore 5, 2) := by decide +kernel
theorem dX11_lowest_24 : decode (mc mX11_lowest) 24 = .ok (.lload 9, 2) := by decide +kernel
theorem dX11_lowest_26 : decode (mc mX11_lowest) 26 = .ok (.lstore 7, 2) := by decide +kernel
theorem dX11_lowest_28 : decode (mc mX11_lowest) 28 = .ok (.goto (-22), 3) := by decide +kernel
theorem dX11_lowest_31 : decode (mc mX11_lowest) 31 = .ok (.iload 4, 2) := by decide +kernel
theorem dX11_lowest_33 : decode (mc mX11_lowest) 33 = .ok (.ifCond .ne 7, 3) := by decide +kernel
theorem dX11_lowest_36 : decode (mc mX11_lowest) 36 = .ok (.lload_n 0, 1) := by decide +kernel
theorem dX11_lowest_37 : decode (mc mX11_lowest) 37 = .ok (.goto 4, 3) := by decide +kernel
theorem dX11_lowest_40 : decode (mc mX11_lowest) 40 = .ok (.lload_n 2, 1) := by decide +kernel
theorem dX11_lowest_41 : decode (mc mX11_lowest) 41 = .ok (.lload 5, 2) := by decide +kernel
theorem dX11_lowest_43 : decode (mc mX11_lowest) 43 = .ok (.ldiv, 1) := by decide +kernel
theorem dX11_lowest_44 : decode (mc mX11_lowest) 44 = .ok (.lreturn, 1) := by decide +kernel
theorem dX11_likely_0 : decode (mc mX11_likely) 0 = .ok (.iload_n 1, 1) := by decide +kernel
theorem dX11_likely_1 : decode (mc mX11_likely) 1 = .ok (.iconst 2, 1) := by decide +kernel
theorem dX11_likely_2 : decode (mc mX11_likely) 2 = .ok (.bipush 20, 2) := by decide +kernel
theorem dX11_likely_4 : decode (mc mX11_likely) 4 = .ok (.invokestatic 93, 3) := by decide +kernel
theorem dX11_likely_7 : decode (mc mX11_likely) 7 = .ok (.istore_n 3, 1) := by decide +kernel
theorem dX11_likely_8 : decode (mc mX11_likely) 8 = .ok (.iload_n 3, 1) := by decide +kernel
theorem dX11_likely_9 : decode (mc mX11_likely) 9 = .ok (.ifCond .ne 16, 3) := by decide +kernel
theorem dX11_likely_12 : decode (mc mX11_likely) 12 = .ok (.iload_n 2, 1) := by decide +kernel
theorem dX11_likely_13 : decode (mc mX11_likely) 13 = .ok (.i2l, 1) := by decide +kernel
theorem dX11_likely_14 : decode (mc mX11_likely) 14 = .ok (.lconst 0, 1) := by decide +kernel
theorem dX11_likely_15 : decode (mc mX11_likely) 15 = .ok (.lconst 1, 1) := by decide +kernel
theorem dX11_likely_16 : decode (mc mX11_likely) 16 = .ok (.invokestatic 89, 3) := by decide +kernel
theorem dX11_likely_19 : decode (mc mX11_likely) 19 = .ok (.ifCond .ne 6, 3) := by decide +kernel
theorem dX11_likely_22 : decode (mc mX11_likely) 22 = .ok (.bipush (-2), 2) := by decide +kernel
theorem dX11_likely_24 : decode (mc mX11_likely) 24 = .ok (.istore_n 3, 1) := by decide +kernel
theorem dX11_likely_25 : decode (mc mX11_likely) 25 = .ok (.iload_n 3, 1) := by decide +kernel
theorem dX11_likely_26 : decode (mc mX11_likely) 26 = .ok (.ifCond .eq 9, 3) := by decide +kernel
theorem dX11_likely_29 : decode (mc mX11_likely) 29 = .ok (.aload_n 0, 1) := by decide +kernel
theorem dX11_likely_30 : decode (mc mX11_likely) 30 = .ok (.iload_n 3, 1) := by decide +kernel
theorem dX11_likely_31 : decode (mc mX11_likely) 31 = .ok (.invokevirtual 230, 3) := by decide +kernel
theorem dX11_likely_34 : decode (mc mX11_likely) 34 = .ok (.lreturn, 1) := by decide +kernel
theorem dX11_likely_35 : decode (mc mX11_likely) 35 = .ok (.lconst 0, 1) := by decide +kernel
theorem dX11_likely_36 : decode (mc mX11_likely) 36 = .ok (.lstore 4, 2) := by decide +kernel
theorem dX11_likely_38 : decode (mc mX11_likely) 38 = .ok (.lconst 1, 1) := by decide +kernel
theorem dX11_likely_39 : decode (mc mX11_likely) 39 = .ok (.lstore 6, 2) := by decide +kernel
theorem dX11_likely_41 : decode (mc mX11_likely) 41 = .ok (.iconst 0, 1) := by decide +kernel
theorem dX11_likely_42 : decode (mc mX11_likely) 42 = .ok (.istore 8, 2) := by decide +kernel
theorem dX11_likely_44 : decode (mc mX11_likely) 44 = .ok (.iload 8, 2) := by decide +kernel
theorem dX11_likely_46 : decode (mc mX11_likely) 46 = .ok (.aload_n 0, 1) := by decide +kernel
theorem dX11_likely_47 : decode (mc mX11_likely) 47 = .ok (.getfield 9, 3) := by decide +kernel
theorem dX11_likely_50 : decode (mc mX11_likely) 50 = .ok (.iconst 3, 1) := by decide +kernel
theorem dX11_likely_51 : decode (mc mX11_likely) 51 = .ok (.iaload, 1) := by decide +kernel
theorem dX11_likely_52 : decode (mc mX11_likely) 52 = .ok (.if_icmp .ge 16, 3) := by decide +kernel
theorem dX11_likely_55 : decode (mc mX11_likely) 55 = .ok (.lload 6, 2) := by decide +kernel
theorem dX11_likely_57 : decode (mc mX11_likely) 57 = .ok (.iload_n 1, 1) := by decide +kernel
theorem dX11_likely_58 : decode (mc mX11_likely) 58 = .ok (.i2l, 1) := by decide +kernel
theorem dX11_likely_59 : decode (mc mX11_likely) 59 = .ok (.lmul, 1) := by decide +kernel
theorem dX11_likely_60 : decode (mc mX11_likely) 60 = .ok (.lstore 6, 2) := by decide +kernel
theorem dX11_likely_62 : decode (mc mX11_likely) 62 = .ok (.iinc 8 1, 3) := by decide +kernel
theorem dX11_likely_65 : decode (mc mX11_likely) 65 = .ok (.goto (-21), 3) := by decide +kernel
theorem dX11_likely_68 : decode (mc mX11_likely) 68 = .ok (.iconst 0, 1) := by decide +kernel
theorem dX11_likely_69 : decode (mc mX11_likely) 69 = .ok (.istore 8, 2) := by decide +kernel
theorem dX11_likely_71 : decode (mc mX11_likely) 71 = .ok (.iload 8, 2) := by decide +kernel
theorem dX11_likely_73 : decode (mc mX11_likely) 73 = .ok (.iconst 1, 1) := by decide +kernel
theorem dX11_likely_74 : decode (mc mX11_likely) 74 = .ok (.aload_n 0, 1) := by decide +kernel
theorem dX11_likely_75 : decode (mc mX11_likely) 75 = .ok (.getfield 9, 3) := by decide +kernel
theorem dX11_likely_78 : decode (mc mX11_likely) 78 = .ok (.iconst 3, 1) := by decide +kernel
theorem dX11_likely_79 : decode (mc mX11_likely) 79 = .ok (.iaload, 1) := by decide +kernel
theorem dX11_likely_80 : decode (mc mX11_likely) 80 = .ok (.ishl, 1) := by decide +kernel
theorem dX11_likely_81 : decode (mc mX11_likely) 81 = .ok (.if_icmp .ge 81, 3) := by decide +kernel
theorem dX11_likely_84 : decode (mc mX11_likely) 84 = .ok (.lconst 1, 1) := by decide +kernel
theorem dX11_likely_85 : decode (mc mX11_likely) 85 = .ok (.lstore 9, 2) := by decide +kernel
theorem dX11_likely_87 : decode (mc mX11_likely) 87 = .ok (.iconst 0, 1) := by decide +kernel
theorem dX11_likely_88 : decode (mc mX11_likely) 88 = .ok (.istore 11, 2) := by decide +kernel
theorem dX11_likely_90 : decode (mc mX11_likely) 90 = .ok (.iload 11, 2) := by decide +kernel
theorem dX11_likely_92 : decode (mc mX11_likely) 92 = .ok (.aload_n 0, 1) := by decide +kernel
theorem dX11_likely_93 : decode (mc mX11_likely) 93 = .ok (.getfield 9, 3) := by decide +kernel
theorem dX11_likely_96 : decode (mc mX11_likely) 96 = .ok (.iconst 3, 1) := by decide +kernel
theorem dX11_likely_97 : decode (mc mX11_likely) 97 = .ok (.iaload, 1) := by decide +kernel
theorem dX11_likely_98 : decode (mc mX11_likely) 98 = .ok (.if_icmp .ge 32, 3) := by decide +kernel
theorem dX11_likely_101 : decode (mc mX11_likely) 101 = .ok (.lload 9, 2) := by decide +kernel
theorem dX11_likely_103 : decode (mc mX11_likely) 103 = .ok (.iload 8, 2) := by decide +kernel
theorem dX11_likely_105 : decode (mc mX11_likely) 105 = .ok (.iload 11, 2) := by decide +kernel
theorem dX11_likely_107 : decode (mc mX11_likely) 107 = .ok (.invokestatic 165, 3) := by decide +kernel
theorem dX11_likely_110 : decode (mc mX11_likely) 110 = .ok (.ifCond .eq 7, 3) := by decide +kernel
theorem dX11_likely_113 : decode (mc mX11_likely) 113 = .ok (.lconst 1, 1) := by decide +kernel
theorem dX11_likely_114 : decode (mc mX11_likely) 114 = .ok (.goto 7, 3) := by decide +kernel
theorem dX11_likely_117 : decode (mc mX11_likely) 117 = .ok (.iload_n 1, 1) := by decide +kernel
theorem dX11_likely_118 : decode (mc mX11_likely) 118 = .ok (.iconst 1, 1) := by decide +kernel
theorem dX11_likely_119 : decode (mc mX11_likely) 119 = .ok (.isub, 1) := by decide +kernel
theorem dX11_likely_120 : decode (mc mX11_likely) 120 = .ok (.i2l, 1) := by decide +kernel
theorem dX11_likely_121 : decode (mc mX11_likely) 121 = .ok (.lmul, 1) := by decide +kernel
theorem dX11_likely_122 : decode (mc mX11_likely) 122 = .ok (.lstore 9, 2) := by decide +kernel
theorem dX11_likely_124 : decode (mc mX11_likely) 124 = .ok (.iinc 11 1, 3) := by decide +kernel
theorem dX11_likely_127 : decode (mc mX11_likely) 127 = .ok (.goto (-37), 3) := by decide +kernel
theorem dX11_likely_130 : decode (mc mX11_likely) 130 = .ok (.aload_n 0, 1) := by decide +kernel
theorem dX11_likely_131 : decode (mc mX11_likely) 131 = .ok (.iload 8, 2) := by decide +kernel
theorem dX11_likely_133 : decode (mc mX11_likely) 133 = .ok (.putfield 199, 3) := by decide +kernel
theorem dX11_likely_136 : decode (mc mX11_likely) 136 = .ok (.lload 4, 2) := by decide +kernel
theorem dX11_likely_138 : decode (mc mX11_likely) 138 = .ok (.aload_n 0, 1) := by decide +kernel
theorem dX11_likely_139 : decode (mc mX11_likely) 139 = .ok (.invokevirtual 220, 3) := by decide +kernel
theorem dX11_likely_142 : decode (mc mX11_likely) 142 = .ok (.bipush (-9), 2) := by decide +kernel
theorem dX11_likely_144 : decode (mc mX11_likely) 144 = .ok (.if_icmp .ne 7, 3) := by decide +kernel
theorem dX11_likely_147 : decode (mc mX11_likely) 147 = .ok (.lconst 0, 1) := by decide +kernel
theorem dX11_likely_148 : decode (mc mX11_likely) 148 = .ok (.goto 5, 3) := by decide +kernel
theorem dX11_likely_151 : decode (mc mX11_likely) 151 = .ok (.lload 9, 2) := by decide +kernel
theorem dX11_likely_153 : decode (mc mX11_likely) 153 = .ok (.ladd, 1) := by decide +kernel
theorem dX11_likely_154 : decode (mc mX11_likely) 154 = .ok (.lstore 4, 2) := by decide +kernel
theorem dX11_likely_156 : decode (mc mX11_likely) 156 = .ok (.iinc 8 1, 3) := by decide +kernel
theorem dX11_likely_159 : decode (mc mX11_likely) 159 = .ok (.goto (-88), 3) := by decide +kernel
theorem dX11_likely_162 : decode (mc mX11_likely) 162 = .ok (.aload_n 0, 1) := by decide +kernel
theorem dX11_likely_163 : decode (mc mX11_likely) 163 = .ok (.iconst 0, 1) := by decide +kernel
theorem dX11_likely_164 : decode (mc mX11_likely) 164 = .ok (.putfield 199, 3) := by decide +kernel
theorem dX11_likely_167 : decode (mc mX11_likely) 167 = .ok (.lload 4, 2) := by decide +kernel
theorem dX11_likely_169 : decode (mc mX11_likely) 169 = .ok (.lload 6, 2) := by decide +kernel
theorem dX11_likely_171 : decode (mc mX11_likely) 171 = .ok (.iload_n 2, 1) := by decide +kernel
theorem dX11_likely_172 : decode (mc mX11_likely) 172 = .ok (.invokestatic 234, 3) := by decide +kernel
theorem dX11_likely_175 : decode (mc mX11_likely) 175 = .ok (.lreturn, 1) := by decide +kernel
theorem dX11_allDemand_0 : decode (mc mX11_allDemand) 0 = .ok (.iconst 0, 1) := by decide +kernel
theorem dX11_allDemand_1 : decode (mc mX11_allDemand) 1 = .ok (.istore_n 1, 1) := by decide +kernel
theorem dX11_allDemand_2 : decode (mc mX11_allDemand) 2 = .ok (.iconst 0, 1) := by decide +kernel
theorem dX11_allDemand_3 : decode (mc mX11_allDemand) 3 = .ok (.istore_n 2, 1) := by decide +kernel
theorem dX11_allDemand_4 : decode (mc mX11_allDemand) 4 = .ok (.iload_n 2, 1) := by decide +kernel
theorem dX11_allDemand_5 : decode (mc mX11_allDemand) 5 = .ok (.aload_n 0, 1) := by decide +kernel
theorem dX11_allDemand_6 : decode (mc mX11_allDemand) 6 = .ok (.getfield 9, 3) := by decide +kernel
theorem dX11_allDemand_9 : decode (mc mX11_allDemand) 9 = .ok (.iconst 0, 1) := by decide +kernel
theorem dX11_allDemand_10 : decode (mc mX11_allDemand) 10 = .ok (.iaload, 1) := by decide +kernel
theorem dX11_allDemand_11 : decode (mc mX11_allDemand) 11 = .ok (.if_icmp .ge 20, 3) := by decide +kernel
theorem dX11_allDemand_14 : decode (mc mX11_allDemand) 14 = .ok (.iload_n 1, 1) := by decide +kernel
theorem dX11_allDemand_15 : decode (mc mX11_allDemand) 15 = .ok (.aload_n 0, 1) := by decide +kernel
theorem dX11_allDemand_16 : decode (mc mX11_allDemand) 16 = .ok (.getfield 9, 3) := by decide +kernel
theorem dX11_allDemand_19 : decode (mc mX11_allDemand) 19 = .ok (.iconst 4, 1) := by decide +kernel
theorem dX11_allDemand_20 : decode (mc mX11_allDemand) 20 = .ok (.iload_n 2, 1) := by decide +kernel
theorem dX11_allDemand_21 : decode (mc mX11_allDemand) 21 = .ok (.iadd, 1) := by decide +kernel
theorem dX11_allDemand_22 : decode (mc mX11_allDemand) 22 = .ok (.iaload, 1) := by decide +kernel
theorem dX11_allDemand_23 : decode (mc mX11_allDemand) 23 = .ok (.iadd, 1) := by decide +kernel
theorem dX11_allDemand_24 : decode (mc mX11_allDemand) 24 = .ok (.istore_n 1, 1) := by decide +kernel
theorem dX11_allDemand_25 : decode (mc mX11_allDemand) 25 = .ok (.iinc 2 1, 3) := by decide +kernel
theorem dX11_allDemand_28 : decode (mc mX11_allDemand) 28 = .ok (.goto (-24), 3) := by decide +kernel
theorem dX11_allDemand_31 : decode (mc mX11_allDemand) 31 = .ok (.iload_n 1, 1) := by decide +kernel
theorem dX11_allDemand_32 : decode (mc mX11_allDemand) 32 = .ok (.ireturn, 1) := by decide +kernel
theorem dX11_shown_0 : decode (mc mX11_shown) 0 = .ok (.iload_n 1, 1) := by decide +kernel
theorem dX11_shown_1 : decode (mc mX11_shown) 1 = .ok (.i2l, 1) := by decide +kernel
theorem dX11_shown_2 : decode (mc mX11_shown) 2 = .ok (.lconst 0, 1) := by decide +kernel
theorem dX11_shown_3 : decode (mc mX11_shown) 3 = .ok (.ldc2_w 143, 3) := by decide +kernel
theorem dX11_shown_6 : decode (mc mX11_shown) 6 = .ok (.invokestatic 89, 3) := by decide +kernel
theorem dX11_shown_9 : decode (mc mX11_shown) 9 = .ok (.ifCond .ne 10, 3) := by decide +kernel
theorem dX11_shown_12 : decode (mc mX11_shown) 12 = .ok (.aload_n 0, 1) := by decide +kernel
theorem dX11_shown_13 : decode (mc mX11_shown) 13 = .ok (.bipush (-2), 2) := by decide +kernel
theorem dX11_shown_15 : decode (mc mX11_shown) 15 = .ok (.invokevirtual 230, 3) := by decide +kernel
theorem dX11_shown_18 : decode (mc mX11_shown) 18 = .ok (.lreturn, 1) := by decide +kernel
theorem dX11_shown_19 : decode (mc mX11_shown) 19 = .ok (.aload_n 0, 1) := by decide +kernel
theorem dX11_shown_20 : decode (mc mX11_shown) 20 = .ok (.invokevirtual 220, 3) := by decide +kernel
theorem dX11_shown_23 : decode (mc mX11_shown) 23 = .ok (.istore_n 2, 1) := by decide +kernel
theorem dX11_shown_24 : decode (mc mX11_shown) 24 = .ok (.iload_n 2, 1) := by decide +kernel
theorem dX11_shown_25 : decode (mc mX11_shown) 25 = .ok (.bipush (-9), 2) := by decide +kernel
theorem dX11_shown_27 : decode (mc mX11_shown) 27 = .ok (.if_icmp .eq 14, 3) := by decide +kernel
theorem dX11_shown_30 : decode (mc mX11_shown) 30 = .ok (.iload_n 1, 1) := by decide +kernel
theorem dX11_shown_31 : decode (mc mX11_shown) 31 = .ok (.ifCond .ne 17, 3) := by decide +kernel
theorem dX11_shown_34 : decode (mc mX11_shown) 34 = .ok (.aload_n 0, 1) := by decide +kernel
theorem dX11_shown_35 : decode (mc mX11_shown) 35 = .ok (.invokevirtual 238, 3) := by decide +kernel
theorem dX11_shown_38 : decode (mc mX11_shown) 38 = .ok (.ifCond .ne 10, 3) := by decide +kernel
theorem dX11_shown_41 : decode (mc mX11_shown) 41 = .ok (.aload_n 0, 1) := by decide +kernel
theorem dX11_shown_42 : decode (mc mX11_shown) 42 = .ok (.bipush (-3), 2) := by decide +kernel
theorem dX11_shown_44 : decode (mc mX11_shown) 44 = .ok (.invokevirtual 230, 3) := by decide +kernel
theorem dX11_shown_47 : decode (mc mX11_shown) 47 = .ok (.lreturn, 1) := by decide +kernel
theorem dX11_shown_48 : decode (mc mX11_shown) 48 = .ok (.iload_n 1, 1) := by decide +kernel
theorem dX11_shown_49 : decode (mc mX11_shown) 49 = .ok (.ifCond .ne 16, 3) := by decide +kernel
theorem dX11_shown_52 : decode (mc mX11_shown) 52 = .ok (.iload_n 2, 1) := by decide +kernel
theorem dX11_shown_53 : decode (mc mX11_shown) 53 = .ok (.i2f, 1) := by decide +kernel
theorem dX11_shown_54 : decode (mc mX11_shown) 54 = .ok (.aload_n 0, 1) := by decide +kernel
theorem dX11_shown_55 : decode (mc mX11_shown) 55 = .ok (.invokevirtual 238, 3) := by decide +kernel
theorem dX11_shown_58 : decode (mc mX11_shown) 58 = .ok (.i2f, 1) := by decide +kernel
theorem dX11_shown_59 : decode (mc mX11_shown) 59 = .ok (.fdiv, 1) := by decide +kernel
theorem dX11_shown_60 : decode (mc mX11_shown) 60 = .ok (.invokestatic 241, 3) := by decide +kernel
theorem dX11_shown_63 : decode (mc mX11_shown) 63 = .ok (.i2l, 1) := by decide +kernel
theorem dX11_shown_64 : decode (mc mX11_shown) 64 = .ok (.lreturn, 1) := by decide +kernel
theorem dX11_shown_65 : decode (mc mX11_shown) 65 = .ok (.fconst 0, 1) := by decide +kernel
theorem dX11_shown_66 : decode (mc mX11_shown) 66 = .ok (.fstore_n 3, 1) := by decide +kernel
theorem dX11_shown_67 : decode (mc mX11_shown) 67 = .ok (.iconst 0, 1) := by decide +kernel
theorem dX11_shown_68 : decode (mc mX11_shown) 68 = .ok (.istore 4, 2) := by decide +kernel
theorem dX11_shown_70 : decode (mc mX11_shown) 70 = .ok (.iload 4, 2) := by decide +kernel
theorem dX11_shown_72 : decode (mc mX11_shown) 72 = .ok (.aload_n 0, 1) := by decide +kernel
theorem dX11_shown_73 : decode (mc mX11_shown) 73 = .ok (.getfield 9, 3) := by decide +kernel
theorem dX11_shown_76 : decode (mc mX11_shown) 76 = .ok (.iconst 0, 1) := by decide +kernel
theorem dX11_shown_77 : decode (mc mX11_shown) 77 = .ok (.iaload, 1) := by decide +kernel
theorem dX11_shown_78 : decode (mc mX11_shown) 78 = .ok (.if_icmp .ge 22, 3) := by decide +kernel
theorem dX11_shown_81 : decode (mc mX11_shown) 81 = .ok (.fload_n 3, 1) := by decide +kernel
theorem dX11_shown_82 : decode (mc mX11_shown) 82 = .ok (.aload_n 0, 1) := by decide +kernel
theorem dX11_shown_83 : decode (mc mX11_shown) 83 = .ok (.iload 4, 2) := by decide +kernel
theorem dX11_shown_85 : decode (mc mX11_shown) 85 = .ok (.invokevirtual 223, 3) := by decide +kernel
theorem dX11_shown_88 : decode (mc mX11_shown) 88 = .ok (.i2f, 1) := by decide +kernel
theorem dX11_shown_89 : decode (mc mX11_shown) 89 = .ok (.fadd, 1) := by decide +kernel
theorem dX11_shown_90 : decode (mc mX11_shown) 90 = .ok (.ldc 247, 2) := by decide +kernel
theorem dX11_shown_92 : decode (mc mX11_shown) 92 = .ok (.fmul, 1) := by decide +kernel
theorem dX11_shown_93 : decode (mc mX11_shown) 93 = .ok (.fstore_n 3, 1) := by decide +kernel
theorem dX11_shown_94 : decode (mc mX11_shown) 94 = .ok (.iinc 4 1, 3) := by decide +kernel
theorem dX11_shown_97 : decode (mc mX11_shown) 97 = .ok (.goto (-27), 3) := by decide +kernel
theorem dX11_shown_100 : decode (mc mX11_shown) 100 = .ok (.iload_n 1, 1) := by decide +kernel
theorem dX11_shown_101 : decode (mc mX11_shown) 101 = .ok (.iconst 1, 1) := by decide +kernel
theorem dX11_shown_102 : decode (mc mX11_shown) 102 = .ok (.if_icmp .ne 11, 3) := by decide +kernel
theorem dX11_shown_105 : decode (mc mX11_shown) 105 = .ok (.fload_n 3, 1) := by decide +kernel
theorem dX11_shown_106 : decode (mc mX11_shown) 106 = .ok (.invokestatic 241, 3) := by decide +kernel
theorem dX11_shown_109 : decode (mc mX11_shown) 109 = .ok (.i2l, 1) := by decide +kernel
theorem dX11_shown_110 : decode (mc mX11_shown) 110 = .ok (.goto 6, 3) := by decide +kernel
theorem dX11_shown_113 : decode (mc mX11_shown) 113 = .ok (.fload_n 3, 1) := by decide +kernel
theorem dX11_shown_114 : decode (mc mX11_shown) 114 = .ok (.f2i, 1) := by decide +kernel
theorem dX11_shown_115 : decode (mc mX11_shown) 115 = .ok (.i2l, 1) := by decide +kernel
theorem dX11_shown_116 : decode (mc mX11_shown) 116 = .ok (.lreturn, 1) := by decide +kernel
theorem dX11_price_0 : decode (mc mX11_price) 0 = .ok (.aload_n 0, 1) := by decide +kernel
theorem dX11_price_1 : decode (mc mX11_price) 1 = .ok (.iload_n 1, 1) := by decide +kernel
theorem dX11_price_2 : decode (mc mX11_price) 2 = .ok (.invokevirtual 100, 3) := by decide +kernel
theorem dX11_price_5 : decode (mc mX11_price) 5 = .ok (.ifCond .eq 13, 3) := by decide +kernel
theorem dX11_price_8 : decode (mc mX11_price) 8 = .ok (.iload_n 2, 1) := by decide +kernel
theorem dX11_price_9 : decode (mc mX11_price) 9 = .ok (.iconst 0, 1) := by decide +kernel
theorem dX11_price_10 : decode (mc mX11_price) 10 = .ok (.bipush 99, 2) := by decide +kernel
theorem dX11_price_12 : decode (mc mX11_price) 12 = .ok (.invokestatic 93, 3) := by decide +kernel
theorem dX11_price_15 : decode (mc mX11_price) 15 = .ok (.goto 4, 3) := by decide +kernel
theorem dX11_price_18 : decode (mc mX11_price) 18 = .ok (.iconst (-1), 1) := by decide +kernel
theorem dX11_price_19 : decode (mc mX11_price) 19 = .ok (.istore_n 3, 1) := by decide +kernel
theorem dX11_price_20 : decode (mc mX11_price) 20 = .ok (.iload_n 3, 1) := by decide +kernel
theorem dX11_price_21 : decode (mc mX11_price) 21 = .ok (.ifCond .eq 9, 3) := by decide +kernel
theorem dX11_price_24 : decode (mc mX11_price) 24 = .ok (.aload_n 0, 1) := by decide +kernel
theorem dX11_price_25 : decode (mc mX11_price) 25 = .ok (.iload_n 3, 1) := by decide +kernel
theorem dX11_price_26 : decode (mc mX11_price) 26 = .ok (.invokevirtual 79, 3) := by decide +kernel
theorem dX11_price_29 : decode (mc mX11_price) 29 = .ok (.ireturn, 1) := by decide +kernel
theorem dX11_price_30 : decode (mc mX11_price) 30 = .ok (.aload_n 0, 1) := by decide +kernel
theorem dX11_price_31 : decode (mc mX11_price) 31 = .ok (.getfield 9, 3) := by decide +kernel
theorem dX11_price_34 : decode (mc mX11_price) 34 = .ok (.bipush 14, 2) := by decide +kernel
theorem dX11_price_36 : decode (mc mX11_price) 36 = .ok (.iload_n 1, 1) := by decide +kernel
theorem dX11_price_37 : decode (mc mX11_price) 37 = .ok (.iadd, 1) := by decide +kernel
theorem dX11_price_38 : decode (mc mX11_price) 38 = .ok (.iaload, 1) := by decide +kernel
theorem dX11_price_39 : decode (mc mX11_price) 39 = .ok (.istore 4, 2) := by decide +kernel
theorem dX11_price_41 : decode (mc mX11_price) 41 = .ok (.aload_n 0, 1) := by decide +kernel
theorem dX11_price_42 : decode (mc mX11_price) 42 = .ok (.getfield 9, 3) := by decide +kernel
theorem dX11_price_45 : decode (mc mX11_price) 45 = .ok (.bipush 14, 2) := by decide +kernel
theorem dX11_price_47 : decode (mc mX11_price) 47 = .ok (.iload_n 1, 1) := by decide +kernel
theorem dX11_price_48 : decode (mc mX11_price) 48 = .ok (.iadd, 1) := by decide +kernel
theorem dX11_price_49 : decode (mc mX11_price) 49 = .ok (.iload_n 2, 1) := by decide +kernel
theorem dX11_price_50 : decode (mc mX11_price) 50 = .ok (.iastore, 1) := by decide +kernel
theorem dX11_price_51 : decode (mc mX11_price) 51 = .ok (.iload 4, 2) := by decide +kernel
theorem dX11_price_53 : decode (mc mX11_price) 53 = .ok (.ireturn, 1) := by decide +kernel
theorem dX11_step_0 : decode (mc mX11_step) 0 = .ok (.iload_n 1, 1) := by decide +kernel
theorem dX11_step_1 : decode (mc mX11_step) 1 = .ok (.iconst 0, 1) := by decide +kernel
theorem dX11_step_2 : decode (mc mX11_step) 2 = .ok (.bipush 9, 2) := by decide +kernel
