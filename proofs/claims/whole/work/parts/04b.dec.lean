theorem dX10_init_0 : decode (mc mX10_init) 0 = .ok (.aload_n 0, 1) := by decide +kernel
theorem dX10_init_1 : decode (mc mX10_init) 1 = .ok (.invokespecial 1, 3) := by decide +kernel
theorem dX10_init_4 : decode (mc mX10_init) 4 = .ok (.aload_n 0, 1) := by decide +kernel
theorem dX10_init_5 : decode (mc mX10_init) 5 = .ok (.new 7, 3) := by decide +kernel
theorem dX10_init_8 : decode (mc mX10_init) 8 = .ok (.dup, 1) := by decide +kernel
theorem dX10_init_9 : decode (mc mX10_init) 9 = .ok (.invokespecial 9, 3) := by decide +kernel
theorem dX10_init_12 : decode (mc mX10_init) 12 = .ok (.putfield 10, 3) := by decide +kernel
theorem dX10_init_15 : decode (mc mX10_init) 15 = .ok (.aload_n 0, 1) := by decide +kernel
theorem dX10_init_16 : decode (mc mX10_init) 16 = .ok (.new 7, 3) := by decide +kernel
theorem dX10_init_19 : decode (mc mX10_init) 19 = .ok (.dup, 1) := by decide +kernel
theorem dX10_init_20 : decode (mc mX10_init) 20 = .ok (.invokespecial 9, 3) := by decide +kernel
theorem dX10_init_23 : decode (mc mX10_init) 23 = .ok (.putfield 16, 3) := by decide +kernel
theorem dX10_init_26 : decode (mc mX10_init) 26 = .ok (.aload_n 0, 1) := by decide +kernel
theorem dX10_init_27 : decode (mc mX10_init) 27 = .ok (.new 7, 3) := by decide +kernel
theorem dX10_init_30 : decode (mc mX10_init) 30 = .ok (.dup, 1) := by decide +kernel
theorem dX10_init_31 : decode (mc mX10_init) 31 = .ok (.invokespecial 9, 3) := by decide +kernel
theorem dX10_init_34 : decode (mc mX10_init) 34 = .ok (.putfield 19, 3) := by decide +kernel
theorem dX10_init_37 : decode (mc mX10_init) 37 = .ok (.aload_n 0, 1) := by decide +kernel
theorem dX10_init_38 : decode (mc mX10_init) 38 = .ok (.iconst 0, 1) := by decide +kernel
theorem dX10_init_39 : decode (mc mX10_init) 39 = .ok (.putfield 22, 3) := by decide +kernel
theorem dX10_init_42 : decode (mc mX10_init) 42 = .ok (.aload_n 0, 1) := by decide +kernel
theorem dX10_init_43 : decode (mc mX10_init) 43 = .ok (.new 26, 3) := by decide +kernel
theorem dX10_init_46 : decode (mc mX10_init) 46 = .ok (.dup, 1) := by decide +kernel
theorem dX10_init_47 : decode (mc mX10_init) 47 = .ok (.invokespecial 28, 3) := by decide +kernel
theorem dX10_init_50 : decode (mc mX10_init) 50 = .ok (.putfield 29, 3) := by decide +kernel
theorem dX10_init_53 : decode (mc mX10_init) 53 = .ok (.aload_n 0, 1) := by decide +kernel
theorem dX10_init_54 : decode (mc mX10_init) 54 = .ok (.new 33, 3) := by decide +kernel
theorem dX10_init_57 : decode (mc mX10_init) 57 = .ok (.dup, 1) := by decide +kernel
theorem dX10_init_58 : decode (mc mX10_init) 58 = .ok (.invokespecial 35, 3) := by decide +kernel
theorem dX10_init_61 : decode (mc mX10_init) 61 = .ok (.putfield 36, 3) := by decide +kernel
theorem dX10_init_64 : decode (mc mX10_init) 64 = .ok (.aload_n 0, 1) := by decide +kernel
theorem dX10_init_65 : decode (mc mX10_init) 65 = .ok (.new 40, 3) := by decide +kernel
theorem dX10_init_68 : decode (mc mX10_init) 68 = .ok (.dup, 1) := by decide +kernel
theorem dX10_init_69 : decode (mc mX10_init) 69 = .ok (.aload_n 0, 1) := by decide +kernel
theorem dX10_init_70 : decode (mc mX10_init) 70 = .ok (.getfield 10, 3) := by decide +kernel
theorem dX10_init_73 : decode (mc mX10_init) 73 = .ok (.aload_n 0, 1) := by decide +kernel
theorem dX10_init_74 : decode (mc mX10_init) 74 = .ok (.getfield 36, 3) := by decide +kernel
theorem dX10_init_77 : decode (mc mX10_init) 77 = .ok (.invokespecial 42, 3) := by decide +kernel
theorem dX10_init_80 : decode (mc mX10_init) 80 = .ok (.putfield 45, 3) := by decide +kernel
theorem dX10_init_83 : decode (mc mX10_init) 83 = .ok (.aload_n 0, 1) := by decide +kernel
theorem dX10_init_84 : decode (mc mX10_init) 84 = .ok (.new 49, 3) := by decide +kernel
theorem dX10_init_87 : decode (mc mX10_init) 87 = .ok (.dup, 1) := by decide +kernel
theorem dX10_init_88 : decode (mc mX10_init) 88 = .ok (.aload_n 0, 1) := by decide +kernel
theorem dX10_init_89 : decode (mc mX10_init) 89 = .ok (.getfield 10, 3) := by decide +kernel
theorem dX10_init_92 : decode (mc mX10_init) 92 = .ok (.aload_n 0, 1) := by decide +kernel
theorem dX10_init_93 : decode (mc mX10_init) 93 = .ok (.getfield 36, 3) := by decide +kernel
theorem dX10_init_96 : decode (mc mX10_init) 96 = .ok (.invokespecial 51, 3) := by decide +kernel
theorem dX10_init_99 : decode (mc mX10_init) 99 = .ok (.putfield 52, 3) := by decide +kernel
theorem dX10_init_102 : decode (mc mX10_init) 102 = .ok (.aload_n 0, 1) := by decide +kernel
theorem dX10_init_103 : decode (mc mX10_init) 103 = .ok (.new 56, 3) := by decide +kernel
theorem dX10_init_106 : decode (mc mX10_init) 106 = .ok (.dup, 1) := by decide +kernel
theorem dX10_init_107 : decode (mc mX10_init) 107 = .ok (.aload_n 0, 1) := by decide +kernel
theorem dX10_init_108 : decode (mc mX10_init) 108 = .ok (.getfield 10, 3) := by decide +kernel
theorem dX10_init_111 : decode (mc mX10_init) 111 = .ok (.invokespecial 58, 3) := by decide +kernel
theorem dX10_init_114 : decode (mc mX10_init) 114 = .ok (.putfield 61, 3) := by decide +kernel
theorem dX10_init_117 : decode (mc mX10_init) 117 = .ok (.aload_n 0, 1) := by decide +kernel
theorem dX10_init_118 : decode (mc mX10_init) 118 = .ok (.new 65, 3) := by decide +kernel
theorem dX10_init_121 : decode (mc mX10_init) 121 = .ok (.dup, 1) := by decide +kernel
theorem dX10_init_122 : decode (mc mX10_init) 122 = .ok (.aload_n 0, 1) := by decide +kernel
theorem dX10_init_123 : decode (mc mX10_init) 123 = .ok (.getfield 10, 3) := by decide +kernel
theorem dX10_init_126 : decode (mc mX10_init) 126 = .ok (.aload_n 0, 1) := by decide +kernel
theorem dX10_init_127 : decode (mc mX10_init) 127 = .ok (.getfield 61, 3) := by decide +kernel
theorem dX10_init_130 : decode (mc mX10_init) 130 = .ok (.aload_n 0, 1) := by decide +kernel
theorem dX10_init_131 : decode (mc mX10_init) 131 = .ok (.getfield 45, 3) := by decide +kernel
theorem dX10_init_134 : decode (mc mX10_init) 134 = .ok (.invokespecial 67, 3) := by decide +kernel
theorem dX10_init_137 : decode (mc mX10_init) 137 = .ok (.putfield 70, 3) := by decide +kernel
theorem dX10_init_140 : decode (mc mX10_init) 140 = .ok (.aload_n 0, 1) := by decide +kernel
theorem dX10_init_141 : decode (mc mX10_init) 141 = .ok (.iconst 4, 1) := by decide +kernel
theorem dX10_init_142 : decode (mc mX10_init) 142 = .ok (.anewarray 74, 3) := by decide +kernel
theorem dX10_init_145 : decode (mc mX10_init) 145 = .ok (.putfield 76, 3) := by decide +kernel
theorem dX10_init_148 : decode (mc mX10_init) 148 = .ok (.aload_n 0, 1) := by decide +kernel
theorem dX10_init_149 : decode (mc mX10_init) 149 = .ok (.iconst 3, 1) := by decide +kernel
theorem dX10_init_150 : decode (mc mX10_init) 150 = .ok (.anewarray 80, 3) := by decide +kernel
theorem dX10_init_153 : decode (mc mX10_init) 153 = .ok (.putfield 82, 3) := by decide +kernel
theorem dX10_init_156 : decode (mc mX10_init) 156 = .ok (.aload_n 0, 1) := by decide +kernel
theorem dX10_init_157 : decode (mc mX10_init) 157 = .ok (.bipush 7, 2) := by decide +kernel
theorem dX10_init_159 : decode (mc mX10_init) 159 = .ok (.newarray .int, 2) := by decide +kernel
theorem dX10_init_161 : decode (mc mX10_init) 161 = .ok (.putfield 86, 3) := by decide +kernel
theorem dX10_init_164 : decode (mc mX10_init) 164 = .ok (.iconst 0, 1) := by decide +kernel
theorem dX10_init_165 : decode (mc mX10_init) 165 = .ok (.istore_n 1, 1) := by decide +kernel
theorem dX10_init_166 : decode (mc mX10_init) 166 = .ok (.iload_n 1, 1) := by decide +kernel
theorem dX10_init_167 : decode (mc mX10_init) 167 = .ok (.iconst 4, 1) := by decide +kernel
theorem dX10_init_168 : decode (mc mX10_init) 168 = .ok (.if_icmp .ge 22, 3) := by decide +kernel
theorem dX10_init_171 : decode (mc mX10_init) 171 = .ok (.aload_n 0, 1) := by decide +kernel
theorem dX10_init_172 : decode (mc mX10_init) 172 = .ok (.getfield 76, 3) := by decide +kernel
theorem dX10_init_175 : decode (mc mX10_init) 175 = .ok (.iload_n 1, 1) := by decide +kernel
theorem dX10_init_176 : decode (mc mX10_init) 176 = .ok (.new 74, 3) := by decide +kernel
theorem dX10_init_179 : decode (mc mX10_init) 179 = .ok (.dup, 1) := by decide +kernel
theorem dX10_init_180 : decode (mc mX10_init) 180 = .ok (.invokespecial 90, 3) := by decide +kernel
theorem dX10_init_183 : decode (mc mX10_init) 183 = .ok (.aastore, 1) := by decide +kernel
theorem dX10_init_184 : decode (mc mX10_init) 184 = .ok (.iinc 1 1, 3) := by decide +kernel
theorem dX10_init_187 : decode (mc mX10_init) 187 = .ok (.goto (-21), 3) := by decide +kernel
theorem dX10_init_190 : decode (mc mX10_init) 190 = .ok (.iconst 0, 1) := by decide +kernel
theorem dX10_init_191 : decode (mc mX10_init) 191 = .ok (.istore_n 1, 1) := by decide +kernel
theorem dX10_init_192 : decode (mc mX10_init) 192 = .ok (.iload_n 1, 1) := by decide +kernel
theorem dX10_init_193 : decode (mc mX10_init) 193 = .ok (.iconst 3, 1) := by decide +kernel
theorem dX10_init_194 : decode (mc mX10_init) 194 = .ok (.if_icmp .ge 22, 3) := by decide +kernel
theorem dX10_init_197 : decode (mc mX10_init) 197 = .ok (.aload_n 0, 1) := by decide +kernel
theorem dX10_init_198 : decode (mc mX10_init) 198 = .ok (.getfield 82, 3) := by decide +kernel
theorem dX10_init_201 : decode (mc mX10_init) 201 = .ok (.iload_n 1, 1) := by decide +kernel
theorem dX10_init_202 : decode (mc mX10_init) 202 = .ok (.new 80, 3) := by decide +kernel
theorem dX10_init_205 : decode (mc mX10_init) 205 = .ok (.dup, 1) := by decide +kernel
theorem dX10_init_206 : decode (mc mX10_init) 206 = .ok (.invokespecial 91, 3) := by decide +kernel
theorem dX10_init_209 : decode (mc mX10_init) 209 = .ok (.aastore, 1) := by decide +kernel
theorem dX10_init_210 : decode (mc mX10_init) 210 = .ok (.iinc 1 1, 3) := by decide +kernel
theorem dX10_init_213 : decode (mc mX10_init) 213 = .ok (.goto (-21), 3) := by decide +kernel
theorem dX10_init_216 : decode (mc mX10_init) 216 = .ok (.return_, 1) := by decide +kernel
theorem dX10_letter_0 : decode (mc mX10_letter) 0 = .ok (.iload_n 1, 1) := by decide +kernel
theorem dX10_letter_1 : decode (mc mX10_letter) 1 = .ok (.ifCond .ge 10, 3) := by decide +kernel
theorem dX10_letter_4 : decode (mc mX10_letter) 4 = .ok (.aload_n 0, 1) := by decide +kernel
theorem dX10_letter_5 : decode (mc mX10_letter) 5 = .ok (.bipush (-4), 2) := by decide +kernel
theorem dX10_letter_7 : decode (mc mX10_letter) 7 = .ok (.invokevirtual 92, 3) := by decide +kernel
theorem dX10_letter_10 : decode (mc mX10_letter) 10 = .ok (.ireturn, 1) := by decide +kernel
theorem dX10_letter_11 : decode (mc mX10_letter) 11 = .ok (.iload_n 1, 1) := by decide +kernel
theorem dX10_letter_12 : decode (mc mX10_letter) 12 = .ok (.sipush 255, 3) := by decide +kernel
theorem dX10_letter_15 : decode (mc mX10_letter) 15 = .ok (.if_icmp .gt 15, 3) := by decide +kernel
theorem dX10_letter_18 : decode (mc mX10_letter) 18 = .ok (.aload_n 0, 1) := by decide +kernel
theorem dX10_letter_19 : decode (mc mX10_letter) 19 = .ok (.getfield 29, 3) := by decide +kernel
theorem dX10_letter_22 : decode (mc mX10_letter) 22 = .ok (.getfield 96, 3) := by decide +kernel
theorem dX10_letter_25 : decode (mc mX10_letter) 25 = .ok (.bipush 120, 2) := by decide +kernel
theorem dX10_letter_27 : decode (mc mX10_letter) 27 = .ok (.if_icmp .lt 10, 3) := by decide +kernel
theorem dX10_letter_30 : decode (mc mX10_letter) 30 = .ok (.aload_n 0, 1) := by decide +kernel
theorem dX10_letter_31 : decode (mc mX10_letter) 31 = .ok (.bipush (-6), 2) := by decide +kernel
theorem dX10_letter_33 : decode (mc mX10_letter) 33 = .ok (.invokevirtual 92, 3) := by decide +kernel
theorem dX10_letter_36 : decode (mc mX10_letter) 36 = .ok (.ireturn, 1) := by decide +kernel
theorem dX10_letter_37 : decode (mc mX10_letter) 37 = .ok (.aload_n 0, 1) := by decide +kernel
theorem dX10_letter_38 : decode (mc mX10_letter) 38 = .ok (.getfield 29, 3) := by decide +kernel
theorem dX10_letter_41 : decode (mc mX10_letter) 41 = .ok (.iload_n 1, 1) := by decide +kernel
theorem dX10_letter_42 : decode (mc mX10_letter) 42 = .ok (.invokevirtual 100, 3) := by decide +kernel
theorem dX10_letter_45 : decode (mc mX10_letter) 45 = .ok (.ireturn, 1) := by decide +kernel
theorem dX10_tells_0 : decode (mc mX10_tells) 0 = .ok (.aload_n 0, 1) := by decide +kernel
theorem dX10_tells_1 : decode (mc mX10_tells) 1 = .ok (.getfield 16, 3) := by decide +kernel
theorem dX10_tells_4 : decode (mc mX10_tells) 4 = .ok (.aload_n 0, 1) := by decide +kernel
theorem dX10_tells_5 : decode (mc mX10_tells) 5 = .ok (.getfield 10, 3) := by decide +kernel
theorem dX10_tells_8 : decode (mc mX10_tells) 8 = .ok (.invokevirtual 103, 3) := by decide +kernel
theorem dX10_tells_11 : decode (mc mX10_tells) 11 = .ok (.aload_n 0, 1) := by decide +kernel
theorem dX10_tells_12 : decode (mc mX10_tells) 12 = .ok (.getfield 29, 3) := by decide +kernel
theorem dX10_tells_15 : decode (mc mX10_tells) 15 = .ok (.invokevirtual 106, 3) := by decide +kernel
theorem dX10_tells_18 : decode (mc mX10_tells) 18 = .ok (.istore_n 1, 1) := by decide +kernel
theorem dX10_tells_19 : decode (mc mX10_tells) 19 = .ok (.iload_n 1, 1) := by decide +kernel
theorem dX10_tells_20 : decode (mc mX10_tells) 20 = .ok (.ifCond .lt 15, 3) := by decide +kernel
theorem dX10_tells_23 : decode (mc mX10_tells) 23 = .ok (.aload_n 0, 1) := by decide +kernel
theorem dX10_tells_24 : decode (mc mX10_tells) 24 = .ok (.getfield 29, 3) := by decide +kernel
theorem dX10_tells_27 : decode (mc mX10_tells) 27 = .ok (.aload_n 0, 1) := by decide +kernel
theorem dX10_tells_28 : decode (mc mX10_tells) 28 = .ok (.getfield 10, 3) := by decide +kernel
theorem dX10_tells_31 : decode (mc mX10_tells) 31 = .ok (.invokevirtual 110, 3) := by decide +kernel
theorem dX10_tells_34 : decode (mc mX10_tells) 34 = .ok (.istore_n 1, 1) := by decide +kernel
theorem dX10_tells_35 : decode (mc mX10_tells) 35 = .ok (.iload_n 1, 1) := by decide +kernel
theorem dX10_tells_36 : decode (mc mX10_tells) 36 = .ok (.ifCond .ge 14, 3) := by decide +kernel
theorem dX10_tells_39 : decode (mc mX10_tells) 39 = .ok (.aload_n 0, 1) := by decide +kernel
theorem dX10_tells_40 : decode (mc mX10_tells) 40 = .ok (.getfield 10, 3) := by decide +kernel
theorem dX10_tells_43 : decode (mc mX10_tells) 43 = .ok (.aload_n 0, 1) := by decide +kernel
theorem dX10_tells_44 : decode (mc mX10_tells) 44 = .ok (.getfield 16, 3) := by decide +kernel
theorem dX10_tells_47 : decode (mc mX10_tells) 47 = .ok (.invokevirtual 103, 3) := by decide +kernel
theorem dX10_tells_50 : decode (mc mX10_tells) 50 = .ok (.aload_n 0, 1) := by decide +kernel
theorem dX10_tells_51 : decode (mc mX10_tells) 51 = .ok (.getfield 29, 3) := by decide +kernel
theorem dX10_tells_54 : decode (mc mX10_tells) 54 = .ok (.iconst 0, 1) := by decide +kernel
theorem dX10_tells_55 : decode (mc mX10_tells) 55 = .ok (.putfield 96, 3) := by decide +kernel
theorem dX10_tells_58 : decode (mc mX10_tells) 58 = .ok (.iload_n 1, 1) := by decide +kernel
theorem dX10_tells_59 : decode (mc mX10_tells) 59 = .ok (.ireturn, 1) := by decide +kernel
theorem dX10_hours_0 : decode (mc mX10_hours) 0 = .ok (.aload_n 0, 1) := by decide +kernel
theorem dX10_hours_1 : decode (mc mX10_hours) 1 = .ok (.aload_n 0, 1) := by decide +kernel
theorem dX10_hours_2 : decode (mc mX10_hours) 2 = .ok (.getfield 10, 3) := by decide +kernel
theorem dX10_hours_5 : decode (mc mX10_hours) 5 = .ok (.iload_n 1, 1) := by decide +kernel
theorem dX10_hours_6 : decode (mc mX10_hours) 6 = .ok (.invokevirtual 114, 3) := by decide +kernel
theorem dX10_hours_9 : decode (mc mX10_hours) 9 = .ok (.invokevirtual 117, 3) := by decide +kernel
theorem dX10_hours_12 : decode (mc mX10_hours) 12 = .ok (.ireturn, 1) := by decide +kernel
theorem dX10_demand_0 : decode (mc mX10_demand) 0 = .ok (.aload_n 0, 1) := by decide +kernel
theorem dX10_demand_1 : decode (mc mX10_demand) 1 = .ok (.aload_n 0, 1) := by decide +kernel
theorem dX10_demand_2 : decode (mc mX10_demand) 2 = .ok (.getfield 10, 3) := by decide +kernel
theorem dX10_demand_5 : decode (mc mX10_demand) 5 = .ok (.iload_n 1, 1) := by decide +kernel
theorem dX10_demand_6 : decode (mc mX10_demand) 6 = .ok (.iload_n 2, 1) := by decide +kernel
theorem dX10_demand_7 : decode (mc mX10_demand) 7 = .ok (.iload_n 3, 1) := by decide +kernel
theorem dX10_demand_8 : decode (mc mX10_demand) 8 = .ok (.invokevirtual 120, 3) := by decide +kernel
theorem dX10_demand_11 : decode (mc mX10_demand) 11 = .ok (.invokevirtual 117, 3) := by decide +kernel
theorem dX10_demand_14 : decode (mc mX10_demand) 14 = .ok (.ireturn, 1) := by decide +kernel
theorem dX10_plant_0 : decode (mc mX10_plant) 0 = .ok (.aload_n 0, 1) := by decide +kernel
theorem dX10_plant_1 : decode (mc mX10_plant) 1 = .ok (.aload_n 0, 1) := by decide +kernel
theorem dX10_plant_2 : decode (mc mX10_plant) 2 = .ok (.getfield 10, 3) := by decide +kernel
theorem dX10_plant_5 : decode (mc mX10_plant) 5 = .ok (.iload_n 1, 1) := by decide +kernel
theorem dX10_plant_6 : decode (mc mX10_plant) 6 = .ok (.iload_n 2, 1) := by decide +kernel
theorem dX10_plant_7 : decode (mc mX10_plant) 7 = .ok (.invokevirtual 124, 3) := by decide +kernel
theorem dX10_plant_10 : decode (mc mX10_plant) 10 = .ok (.invokevirtual 117, 3) := by decide +kernel
theorem dX10_plant_13 : decode (mc mX10_plant) 13 = .ok (.ireturn, 1) := by decide +kernel
theorem dX10_gives_0 : decode (mc mX10_gives) 0 = .ok (.aload_n 0, 1) := by decide +kernel
theorem dX10_gives_1 : decode (mc mX10_gives) 1 = .ok (.aload_n 0, 1) := by decide +kernel
theorem dX10_gives_2 : decode (mc mX10_gives) 2 = .ok (.getfield 10, 3) := by decide +kernel
theorem dX10_gives_5 : decode (mc mX10_gives) 5 = .ok (.iload_n 1, 1) := by decide +kernel
theorem dX10_gives_6 : decode (mc mX10_gives) 6 = .ok (.iload_n 2, 1) := by decide +kernel
theorem dX10_gives_7 : decode (mc mX10_gives) 7 = .ok (.iload_n 3, 1) := by decide +kernel
theorem dX10_gives_8 : decode (mc mX10_gives) 8 = .ok (.invokevirtual 128, 3) := by decide +kernel
theorem dX10_gives_11 : decode (mc mX10_gives) 11 = .ok (.invokevirtual 117, 3) := by decide +kernel
theorem dX10_gives_14 : decode (mc mX10_gives) 14 = .ok (.ireturn, 1) := by decide +kernel
theorem dX10_costs_0 : decode (mc mX10_costs) 0 = .ok (.aload_n 0, 1) := by decide +kernel
theorem dX10_costs_1 : decode (mc mX10_costs) 1 = .ok (.aload_n 0, 1) := by decide +kernel
theorem dX10_costs_2 : decode (mc mX10_costs) 2 = .ok (.getfield 10, 3) := by decide +kernel
theorem dX10_costs_5 : decode (mc mX10_costs) 5 = .ok (.iload_n 1, 1) := by decide +kernel
theorem dX10_costs_6 : decode (mc mX10_costs) 6 = .ok (.iload_n 2, 1) := by decide +kernel
theorem dX10_costs_7 : decode (mc mX10_costs) 7 = .ok (.iload_n 3, 1) := by decide +kernel
theorem dX10_costs_8 : decode (mc mX10_costs) 8 = .ok (.iload 4, 2) := by decide +kernel
theorem dX10_costs_10 : decode (mc mX10_costs) 10 = .ok (.invokevirtual 131, 3) := by decide +kernel
theorem dX10_costs_13 : decode (mc mX10_costs) 13 = .ok (.invokevirtual 117, 3) := by decide +kernel
theorem dX10_costs_16 : decode (mc mX10_costs) 16 = .ok (.ireturn, 1) := by decide +kernel
theorem dX10_times_0 : decode (mc mX10_times) 0 = .ok (.aload_n 0, 1) := by decide +kernel
theorem dX10_times_1 : decode (mc mX10_times) 1 = .ok (.aload_n 0, 1) := by decide +kernel
theorem dX10_times_2 : decode (mc mX10_times) 2 = .ok (.getfield 10, 3) := by decide +kernel
theorem dX10_times_5 : decode (mc mX10_times) 5 = .ok (.iload_n 1, 1) := by decide +kernel
theorem dX10_times_6 : decode (mc mX10_times) 6 = .ok (.iload_n 2, 1) := by decide +kernel
theorem dX10_times_7 : decode (mc mX10_times) 7 = .ok (.iload_n 3, 1) := by decide +kernel
theorem dX10_times_8 : decode (mc mX10_times) 8 = .ok (.invokevirtual 135, 3) := by decide +kernel
theorem dX10_times_11 : decode (mc mX10_times) 11 = .ok (.invokevirtual 117, 3) := by decide +kernel
theorem dX10_times_14 : decode (mc mX10_times) 14 = .ok (.ireturn, 1) := by decide +kernel
theorem dX10_age_0 : decode (mc mX10_age) 0 = .ok (.aload_n 0, 1) := by decide +kernel
theorem dX10_age_1 : decode (mc mX10_age) 1 = .ok (.aload_n 0, 1) := by decide +kernel
theorem dX10_age_2 : decode (mc mX10_age) 2 = .ok (.getfield 10, 3) := by decide +kernel
theorem dX10_age_5 : decode (mc mX10_age) 5 = .ok (.iload_n 1, 1) := by decide +kernel
theorem dX10_age_6 : decode (mc mX10_age) 6 = .ok (.iload_n 2, 1) := by decide +kernel
theorem dX10_age_7 : decode (mc mX10_age) 7 = .ok (.invokevirtual 138, 3) := by decide +kernel
theorem dX10_age_10 : decode (mc mX10_age) 10 = .ok (.invokevirtual 117, 3) := by decide +kernel
theorem dX10_age_13 : decode (mc mX10_age) 13 = .ok (.ireturn, 1) := by decide +kernel
theorem dX10_merit_0 : decode (mc mX10_merit) 0 = .ok (.iload_n 1, 1) := by decide +kernel
theorem dX10_merit_1 : decode (mc mX10_merit) 1 = .ok (.ifCond .lt 8, 3) := by decide +kernel
theorem dX10_merit_4 : decode (mc mX10_merit) 4 = .ok (.iload_n 1, 1) := by decide +kernel
theorem dX10_merit_5 : decode (mc mX10_merit) 5 = .ok (.iconst 2, 1) := by decide +kernel
theorem dX10_merit_6 : decode (mc mX10_merit) 6 = .ok (.if_icmp .le 10, 3) := by decide +kernel
theorem dX10_merit_9 : decode (mc mX10_merit) 9 = .ok (.aload_n 0, 1) := by decide +kernel
theorem dX10_merit_10 : decode (mc mX10_merit) 10 = .ok (.bipush (-2), 2) := by decide +kernel
theorem dX10_merit_12 : decode (mc mX10_merit) 12 = .ok (.invokevirtual 92, 3) := by decide +kernel
theorem dX10_merit_15 : decode (mc mX10_merit) 15 = .ok (.ireturn, 1) := by decide +kernel
theorem dX10_merit_16 : decode (mc mX10_merit) 16 = .ok (.aload_n 0, 1) := by decide +kernel
theorem dX10_merit_17 : decode (mc mX10_merit) 17 = .ok (.getfield 10, 3) := by decide +kernel
theorem dX10_merit_20 : decode (mc mX10_merit) 20 = .ok (.getfield 141, 3) := by decide +kernel
theorem dX10_merit_23 : decode (mc mX10_merit) 23 = .ok (.istore_n 2, 1) := by decide +kernel
theorem dX10_merit_24 : decode (mc mX10_merit) 24 = .ok (.aload_n 0, 1) := by decide +kernel
theorem dX10_merit_25 : decode (mc mX10_merit) 25 = .ok (.getfield 10, 3) := by decide +kernel
theorem dX10_merit_28 : decode (mc mX10_merit) 28 = .ok (.iload_n 1, 1) := by decide +kernel
theorem dX10_merit_29 : decode (mc mX10_merit) 29 = .ok (.putfield 141, 3) := by decide +kernel
theorem dX10_merit_32 : decode (mc mX10_merit) 32 = .ok (.iload_n 2, 1) := by decide +kernel
theorem dX10_merit_33 : decode (mc mX10_merit) 33 = .ok (.ireturn, 1) := by decide +kernel
theorem dX10_of_0 : decode (mc mX10_of) 0 = .ok (.aload_n 0, 1) := by decide +kernel
theorem dX10_of_1 : decode (mc mX10_of) 1 = .ok (.getfield 10, 3) := by decide +kernel
theorem dX10_of_4 : decode (mc mX10_of) 4 = .ok (.iload_n 1, 1) := by decide +kernel
theorem dX10_of_5 : decode (mc mX10_of) 5 = .ok (.invokevirtual 144, 3) := by decide +kernel
theorem dX10_of_8 : decode (mc mX10_of) 8 = .ok (.ifCond .eq 9, 3) := by decide +kernel
theorem dX10_of_11 : decode (mc mX10_of) 11 = .ok (.aload_n 0, 1) := by decide +kernel
theorem dX10_of_12 : decode (mc mX10_of) 12 = .ok (.iconst (-1), 1) := by decide +kernel
theorem dX10_of_13 : decode (mc mX10_of) 13 = .ok (.invokevirtual 92, 3) := by decide +kernel
theorem dX10_of_16 : decode (mc mX10_of) 16 = .ok (.ireturn, 1) := by decide +kernel
theorem dX10_of_17 : decode (mc mX10_of) 17 = .ok (.iload_n 2, 1) := by decide +kernel
theorem dX10_of_18 : decode (mc mX10_of) 18 = .ok (.ifCond .lt 9, 3) := by decide +kernel
theorem dX10_of_21 : decode (mc mX10_of) 21 = .ok (.iload_n 2, 1) := by decide +kernel
theorem dX10_of_22 : decode (mc mX10_of) 22 = .ok (.bipush 11, 2) := by decide +kernel
theorem dX10_of_24 : decode (mc mX10_of) 24 = .ok (.if_icmp .le 10, 3) := by decide +kernel
theorem dX10_of_27 : decode (mc mX10_of) 27 = .ok (.aload_n 0, 1) := by decide +kernel
theorem dX10_of_28 : decode (mc mX10_of) 28 = .ok (.bipush (-2), 2) := by decide +kernel
theorem dX10_of_30 : decode (mc mX10_of) 30 = .ok (.invokevirtual 92, 3) := by decide +kernel
theorem dX10_of_33 : decode (mc mX10_of) 33 = .ok (.ireturn, 1) := by decide +kernel
theorem dX10_of_34 : decode (mc mX10_of) 34 = .ok (.aload_n 0, 1) := by decide +kernel
theorem dX10_of_35 : decode (mc mX10_of) 35 = .ok (.getfield 10, 3) := by decide +kernel
theorem dX10_of_38 : decode (mc mX10_of) 38 = .ok (.getfield 148, 3) := by decide +kernel
theorem dX10_of_41 : decode (mc mX10_of) 41 = .ok (.iload_n 1, 1) := by decide +kernel
theorem dX10_of_42 : decode (mc mX10_of) 42 = .ok (.aaload, 1) := by decide +kernel
theorem dX10_of_43 : decode (mc mX10_of) 43 = .ok (.iload_n 2, 1) := by decide +kernel
theorem dX10_of_44 : decode (mc mX10_of) 44 = .ok (.invokevirtual 152, 3) := by decide +kernel
theorem dX10_of_47 : decode (mc mX10_of) 47 = .ok (.ireturn, 1) := by decide +kernel
theorem dX10_starts_0 : decode (mc mX10_starts) 0 = .ok (.aload_n 0, 1) := by decide +kernel
theorem dX10_starts_1 : decode (mc mX10_starts) 1 = .ok (.getfield 10, 3) := by decide +kernel
theorem dX10_starts_4 : decode (mc mX10_starts) 4 = .ok (.iload_n 1, 1) := by decide +kernel
theorem dX10_starts_5 : decode (mc mX10_starts) 5 = .ok (.invokevirtual 144, 3) := by decide +kernel
theorem dX10_starts_8 : decode (mc mX10_starts) 8 = .ok (.ifCond .eq 9, 3) := by decide +kernel
theorem dX10_starts_11 : decode (mc mX10_starts) 11 = .ok (.aload_n 0, 1) := by decide +kernel
theorem dX10_starts_12 : decode (mc mX10_starts) 12 = .ok (.iconst (-1), 1) := by decide +kernel
theorem dX10_starts_13 : decode (mc mX10_starts) 13 = .ok (.invokevirtual 92, 3) := by decide +kernel
theorem dX10_starts_16 : decode (mc mX10_starts) 16 = .ok (.ireturn, 1) := by decide +kernel
theorem dX10_starts_17 : decode (mc mX10_starts) 17 = .ok (.iload_n 2, 1) := by decide +kernel
theorem dX10_starts_18 : decode (mc mX10_starts) 18 = .ok (.iconst 1, 1) := by decide +kernel
theorem dX10_starts_19 : decode (mc mX10_starts) 19 = .ok (.if_icmp .ge 10, 3) := by decide +kernel
theorem dX10_starts_22 : decode (mc mX10_starts) 22 = .ok (.aload_n 0, 1) := by decide +kernel
theorem dX10_starts_23 : decode (mc mX10_starts) 23 = .ok (.bipush (-4), 2) := by decide +kernel
theorem dX10_starts_25 : decode (mc mX10_starts) 25 = .ok (.invokevirtual 92, 3) := by decide +kernel
theorem dX10_starts_28 : decode (mc mX10_starts) 28 = .ok (.ireturn, 1) := by decide +kernel
theorem dX10_starts_29 : decode (mc mX10_starts) 29 = .ok (.iload_n 2, 1) := by decide +kernel
theorem dX10_starts_30 : decode (mc mX10_starts) 30 = .ok (.bipush 9, 2) := by decide +kernel
theorem dX10_starts_32 : decode (mc mX10_starts) 32 = .ok (.if_icmp .le 10, 3) := by decide +kernel
theorem dX10_starts_35 : decode (mc mX10_starts) 35 = .ok (.aload_n 0, 1) := by decide +kernel
theorem dX10_starts_36 : decode (mc mX10_starts) 36 = .ok (.bipush (-6), 2) := by decide +kernel
theorem dX10_starts_38 : decode (mc mX10_starts) 38 = .ok (.invokevirtual 92, 3) := by decide +kernel
theorem dX10_starts_41 : decode (mc mX10_starts) 41 = .ok (.ireturn, 1) := by decide +kernel
theorem dX10_starts_42 : decode (mc mX10_starts) 42 = .ok (.aload_n 0, 1) := by decide +kernel
theorem dX10_starts_43 : decode (mc mX10_starts) 43 = .ok (.getfield 10, 3) := by decide +kernel
theorem dX10_starts_46 : decode (mc mX10_starts) 46 = .ok (.getfield 148, 3) := by decide +kernel
theorem dX10_starts_49 : decode (mc mX10_starts) 49 = .ok (.iload_n 1, 1) := by decide +kernel
theorem dX10_starts_50 : decode (mc mX10_starts) 50 = .ok (.aaload, 1) := by decide +kernel
theorem dX10_starts_51 : decode (mc mX10_starts) 51 = .ok (.iload_n 2, 1) := by decide +kernel
theorem dX10_starts_52 : decode (mc mX10_starts) 52 = .ok (.invokevirtual 157, 3) := by decide +kernel
theorem dX10_starts_55 : decode (mc mX10_starts) 55 = .ok (.ireturn, 1) := by decide +kernel
theorem dX10_lawful_0 : decode (mc mX10_lawful) 0 = .ok (.aload_n 0, 1) := by decide +kernel
theorem dX10_lawful_1 : decode (mc mX10_lawful) 1 = .ok (.getfield 10, 3) := by decide +kernel
theorem dX10_lawful_4 : decode (mc mX10_lawful) 4 = .ok (.iload_n 1, 1) := by decide +kernel
theorem dX10_lawful_5 : decode (mc mX10_lawful) 5 = .ok (.invokevirtual 144, 3) := by decide +kernel
theorem dX10_lawful_8 : decode (mc mX10_lawful) 8 = .ok (.ifCond .eq 9, 3) := by decide +kernel
theorem dX10_lawful_11 : decode (mc mX10_lawful) 11 = .ok (.aload_n 0, 1) := by decide +kernel
theorem dX10_lawful_12 : decode (mc mX10_lawful) 12 = .ok (.iconst (-1), 1) := by decide +kernel
theorem dX10_lawful_13 : decode (mc mX10_lawful) 13 = .ok (.invokevirtual 92, 3) := by decide +kernel
theorem dX10_lawful_16 : decode (mc mX10_lawful) 16 = .ok (.ireturn, 1) := by decide +kernel
theorem dX10_lawful_17 : decode (mc mX10_lawful) 17 = .ok (.iload_n 2, 1) := by decide +kernel
theorem dX10_lawful_18 : decode (mc mX10_lawful) 18 = .ok (.ifCond .ge 10, 3) := by decide +kernel
theorem dX10_lawful_21 : decode (mc mX10_lawful) 21 = .ok (.aload_n 0, 1) := by decide +kernel
theorem dX10_lawful_22 : decode (mc mX10_lawful) 22 = .ok (.bipush (-4), 2) := by decide +kernel
theorem dX10_lawful_24 : decode (mc mX10_lawful) 24 = .ok (.invokevirtual 92, 3) := by decide +kernel
theorem dX10_lawful_27 : decode (mc mX10_lawful) 27 = .ok (.ireturn, 1) := by decide +kernel
theorem dX10_lawful_28 : decode (mc mX10_lawful) 28 = .ok (.iload_n 2, 1) := by decide +kernel
theorem dX10_lawful_29 : decode (mc mX10_lawful) 29 = .ok (.iconst 1, 1) := by decide +kernel
theorem dX10_lawful_30 : decode (mc mX10_lawful) 30 = .ok (.aload_n 0, 1) := by decide +kernel
theorem dX10_lawful_31 : decode (mc mX10_lawful) 31 = .ok (.getfield 10, 3) := by decide +kernel
theorem dX10_lawful_34 : decode (mc mX10_lawful) 34 = .ok (.getfield 160, 3) := by decide +kernel
theorem dX10_lawful_37 : decode (mc mX10_lawful) 37 = .ok (.ishl, 1) := by decide +kernel
theorem dX10_lawful_38 : decode (mc mX10_lawful) 38 = .ok (.if_icmp .lt 10, 3) := by decide +kernel
theorem dX10_lawful_41 : decode (mc mX10_lawful) 41 = .ok (.aload_n 0, 1) := by decide +kernel
theorem dX10_lawful_42 : decode (mc mX10_lawful) 42 = .ok (.bipush (-6), 2) := by decide +kernel
theorem dX10_lawful_44 : decode (mc mX10_lawful) 44 = .ok (.invokevirtual 92, 3) := by decide +kernel
theorem dX10_lawful_47 : decode (mc mX10_lawful) 47 = .ok (.ireturn, 1) := by decide +kernel
theorem dX10_lawful_48 : decode (mc mX10_lawful) 48 = .ok (.aload_n 0, 1) := by decide +kernel
theorem dX10_lawful_49 : decode (mc mX10_lawful) 49 = .ok (.getfield 10, 3) := by decide +kernel
theorem dX10_lawful_52 : decode (mc mX10_lawful) 52 = .ok (.getfield 148, 3) := by decide +kernel
theorem dX10_lawful_55 : decode (mc mX10_lawful) 55 = .ok (.iload_n 1, 1) := by decide +kernel
theorem dX10_lawful_56 : decode (mc mX10_lawful) 56 = .ok (.aaload, 1) := by decide +kernel
theorem dX10_lawful_57 : decode (mc mX10_lawful) 57 = .ok (.iload_n 2, 1) := by decide +kernel
theorem dX10_lawful_58 : decode (mc mX10_lawful) 58 = .ok (.aload_n 0, 1) := by decide +kernel
theorem dX10_lawful_59 : decode (mc mX10_lawful) 59 = .ok (.getfield 10, 3) := by decide +kernel
theorem dX10_lawful_62 : decode (mc mX10_lawful) 62 = .ok (.getfield 160, 3) := by decide +kernel
theorem dX10_lawful_65 : decode (mc mX10_lawful) 65 = .ok (.invokevirtual 163, 3) := by decide +kernel
theorem dX10_lawful_68 : decode (mc mX10_lawful) 68 = .ok (.ifCond .eq 7, 3) := by decide +kernel
theorem dX10_lawful_71 : decode (mc mX10_lawful) 71 = .ok (.iconst 1, 1) := by decide +kernel
theorem dX10_lawful_72 : decode (mc mX10_lawful) 72 = .ok (.goto 4, 3) := by decide +kernel
theorem dX10_lawful_75 : decode (mc mX10_lawful) 75 = .ok (.iconst 0, 1) := by decide +kernel
theorem dX10_lawful_76 : decode (mc mX10_lawful) 76 = .ok (.ireturn, 1) := by decide +kernel
theorem dX10_rows_0 : decode (mc mX10_rows) 0 = .ok (.aload_n 0, 1) := by decide +kernel
theorem dX10_rows_1 : decode (mc mX10_rows) 1 = .ok (.getfield 10, 3) := by decide +kernel
theorem dX10_rows_4 : decode (mc mX10_rows) 4 = .ok (.iload_n 1, 1) := by decide +kernel
theorem dX10_rows_5 : decode (mc mX10_rows) 5 = .ok (.invokevirtual 144, 3) := by decide +kernel
theorem dX10_rows_8 : decode (mc mX10_rows) 8 = .ok (.ifCond .eq 9, 3) := by decide +kernel
theorem dX10_rows_11 : decode (mc mX10_rows) 11 = .ok (.aload_n 0, 1) := by decide +kernel
theorem dX10_rows_12 : decode (mc mX10_rows) 12 = .ok (.iconst (-1), 1) := by decide +kernel
theorem dX10_rows_13 : decode (mc mX10_rows) 13 = .ok (.invokevirtual 92, 3) := by decide +kernel
theorem dX10_rows_16 : decode (mc mX10_rows) 16 = .ok (.ireturn, 1) := by decide +kernel
theorem dX10_rows_17 : decode (mc mX10_rows) 17 = .ok (.iload_n 2, 1) := by decide +kernel
theorem dX10_rows_18 : decode (mc mX10_rows) 18 = .ok (.iconst (-1), 1) := by decide +kernel
theorem dX10_rows_19 : decode (mc mX10_rows) 19 = .ok (.if_icmp .ge 10, 3) := by decide +kernel
theorem dX10_rows_22 : decode (mc mX10_rows) 22 = .ok (.aload_n 0, 1) := by decide +kernel
theorem dX10_rows_23 : decode (mc mX10_rows) 23 = .ok (.bipush (-3), 2) := by decide +kernel
theorem dX10_rows_25 : decode (mc mX10_rows) 25 = .ok (.invokevirtual 92, 3) := by decide +kernel
theorem dX10_rows_28 : decode (mc mX10_rows) 28 = .ok (.ireturn, 1) := by decide +kernel
theorem dX10_rows_29 : decode (mc mX10_rows) 29 = .ok (.iconst 0, 1) := by decide +kernel
theorem dX10_rows_30 : decode (mc mX10_rows) 30 = .ok (.istore_n 3, 1) := by decide +kernel
theorem dX10_rows_31 : decode (mc mX10_rows) 31 = .ok (.iconst 0, 1) := by decide +kernel
theorem dX10_rows_32 : decode (mc mX10_rows) 32 = .ok (.istore 4, 2) := by decide +kernel
theorem dX10_rows_34 : decode (mc mX10_rows) 34 = .ok (.iload 4, 2) := by decide +kernel
theorem dX10_rows_36 : decode (mc mX10_rows) 36 = .ok (.iconst 1, 1) := by decide +kernel
theorem dX10_rows_37 : decode (mc mX10_rows) 37 = .ok (.aload_n 0, 1) := by decide +kernel
theorem dX10_rows_38 : decode (mc mX10_rows) 38 = .ok (.getfield 10, 3) := by decide +kernel
theorem dX10_rows_41 : decode (mc mX10_rows) 41 = .ok (.getfield 160, 3) := by decide +kernel
theorem dX10_rows_44 : decode (mc mX10_rows) 44 = .ok (.ishl, 1) := by decide +kernel
theorem dX10_rows_45 : decode (mc mX10_rows) 45 = .ok (.if_icmp .ge 44, 3) := by decide +kernel
theorem dX10_rows_48 : decode (mc mX10_rows) 48 = .ok (.aload_n 0, 1) := by decide +kernel
theorem dX10_rows_49 : decode (mc mX10_rows) 49 = .ok (.getfield 10, 3) := by decide +kernel
theorem dX10_rows_52 : decode (mc mX10_rows) 52 = .ok (.getfield 148, 3) := by decide +kernel
theorem dX10_rows_55 : decode (mc mX10_rows) 55 = .ok (.iload_n 1, 1) := by decide +kernel
theorem dX10_rows_56 : decode (mc mX10_rows) 56 = .ok (.aaload, 1) := by decide +kernel
theorem dX10_rows_57 : decode (mc mX10_rows) 57 = .ok (.iload 4, 2) := by decide +kernel
theorem dX10_rows_59 : decode (mc mX10_rows) 59 = .ok (.aload_n 0, 1) := by decide +kernel
theorem dX10_rows_60 : decode (mc mX10_rows) 60 = .ok (.getfield 10, 3) := by decide +kernel
theorem dX10_rows_63 : decode (mc mX10_rows) 63 = .ok (.getfield 160, 3) := by decide +kernel
theorem dX10_rows_66 : decode (mc mX10_rows) 66 = .ok (.invokevirtual 163, 3) := by decide +kernel
theorem dX10_rows_69 : decode (mc mX10_rows) 69 = .ok (.ifCond .eq 14, 3) := by decide +kernel
theorem dX10_rows_72 : decode (mc mX10_rows) 72 = .ok (.iload_n 3, 1) := by decide +kernel
theorem dX10_rows_73 : decode (mc mX10_rows) 73 = .ok (.iload_n 2, 1) := by decide +kernel
theorem dX10_rows_74 : decode (mc mX10_rows) 74 = .ok (.if_icmp .ne 6, 3) := by decide +kernel
theorem dX10_rows_77 : decode (mc mX10_rows) 77 = .ok (.iload 4, 2) := by decide +kernel
theorem dX10_rows_79 : decode (mc mX10_rows) 79 = .ok (.ireturn, 1) := by decide +kernel
theorem dX10_rows_80 : decode (mc mX10_rows) 80 = .ok (.iinc 3 1, 3) := by decide +kernel
theorem dX10_rows_83 : decode (mc mX10_rows) 83 = .ok (.iinc 4 1, 3) := by decide +kernel
theorem dX10_rows_86 : decode (mc mX10_rows) 86 = .ok (.goto (-52), 3) := by decide +kernel
theorem dX10_rows_89 : decode (mc mX10_rows) 89 = .ok (.iload_n 2, 1) := by decide +kernel
theorem dX10_rows_90 : decode (mc mX10_rows) 90 = .ok (.iconst (-1), 1) := by decide +kernel
theorem dX10_rows_91 : decode (mc mX10_rows) 91 = .ok (.if_icmp .ne 7, 3) := by decide +kernel
theorem dX10_rows_94 : decode (mc mX10_rows) 94 = .ok (.iload_n 3, 1) := by decide +kernel
theorem dX10_rows_95 : decode (mc mX10_rows) 95 = .ok (.goto 9, 3) := by decide +kernel
theorem dX10_rows_98 : decode (mc mX10_rows) 98 = .ok (.aload_n 0, 1) := by decide +kernel
theorem dX10_rows_99 : decode (mc mX10_rows) 99 = .ok (.bipush (-3), 2) := by decide +kernel
theorem dX10_rows_101 : decode (mc mX10_rows) 101 = .ok (.invokevirtual 92, 3) := by decide +kernel
theorem dX10_rows_104 : decode (mc mX10_rows) 104 = .ok (.ireturn, 1) := by decide +kernel
theorem dX10_done_0 : decode (mc mX10_done) 0 = .ok (.aload_n 0, 1) := by decide +kernel
theorem dX10_done_1 : decode (mc mX10_done) 1 = .ok (.getfield 10, 3) := by decide +kernel
theorem dX10_done_4 : decode (mc mX10_done) 4 = .ok (.iload_n 1, 1) := by decide +kernel
theorem dX10_done_5 : decode (mc mX10_done) 5 = .ok (.invokevirtual 167, 3) := by decide +kernel
theorem dX10_done_8 : decode (mc mX10_done) 8 = .ok (.ifCond .eq 9, 3) := by decide +kernel
theorem dX10_done_11 : decode (mc mX10_done) 11 = .ok (.aload_n 0, 1) := by decide +kernel
theorem dX10_done_12 : decode (mc mX10_done) 12 = .ok (.iconst (-1), 1) := by decide +kernel
theorem dX10_done_13 : decode (mc mX10_done) 13 = .ok (.invokevirtual 92, 3) := by decide +kernel
theorem dX10_done_16 : decode (mc mX10_done) 16 = .ok (.ireturn, 1) := by decide +kernel
theorem dX10_done_17 : decode (mc mX10_done) 17 = .ok (.aload_n 0, 1) := by decide +kernel
theorem dX10_done_18 : decode (mc mX10_done) 18 = .ok (.iload_n 2, 1) := by decide +kernel
theorem dX10_done_19 : decode (mc mX10_done) 19 = .ok (.invokevirtual 170, 3) := by decide +kernel
theorem dX10_done_22 : decode (mc mX10_done) 22 = .ok (.istore_n 3, 1) := by decide +kernel
theorem dX10_done_23 : decode (mc mX10_done) 23 = .ok (.iload_n 3, 1) := by decide +kernel
theorem dX10_done_24 : decode (mc mX10_done) 24 = .ok (.ifCond .ge 9, 3) := by decide +kernel
theorem dX10_done_27 : decode (mc mX10_done) 27 = .ok (.aload_n 0, 1) := by decide +kernel
theorem dX10_done_28 : decode (mc mX10_done) 28 = .ok (.iload_n 3, 1) := by decide +kernel
theorem dX10_done_29 : decode (mc mX10_done) 29 = .ok (.invokevirtual 92, 3) := by decide +kernel
theorem dX10_done_32 : decode (mc mX10_done) 32 = .ok (.ireturn, 1) := by decide +kernel
theorem dX10_done_33 : decode (mc mX10_done) 33 = .ok (.aload_n 0, 1) := by decide +kernel
theorem dX10_done_34 : decode (mc mX10_done) 34 = .ok (.getfield 36, 3) := by decide +kernel
theorem dX10_done_37 : decode (mc mX10_done) 37 = .ok (.aload_n 0, 1) := by decide +kernel
theorem dX10_done_38 : decode (mc mX10_done) 38 = .ok (.getfield 10, 3) := by decide +kernel
theorem dX10_done_41 : decode (mc mX10_done) 41 = .ok (.invokevirtual 173, 3) := by decide +kernel
theorem dX10_done_44 : decode (mc mX10_done) 44 = .ok (.aload_n 0, 1) := by decide +kernel
theorem dX10_done_45 : decode (mc mX10_done) 45 = .ok (.getfield 36, 3) := by decide +kernel
theorem dX10_done_48 : decode (mc mX10_done) 48 = .ok (.aload_n 0, 1) := by decide +kernel
theorem dX10_done_49 : decode (mc mX10_done) 49 = .ok (.getfield 10, 3) := by decide +kernel
theorem dX10_done_52 : decode (mc mX10_done) 52 = .ok (.getfield 176, 3) := by decide +kernel
theorem dX10_done_55 : decode (mc mX10_done) 55 = .ok (.iload_n 1, 1) := by decide +kernel
theorem dX10_done_56 : decode (mc mX10_done) 56 = .ok (.iaload, 1) := by decide +kernel
theorem dX10_done_57 : decode (mc mX10_done) 57 = .ok (.aload_n 0, 1) := by decide +kernel
theorem dX10_done_58 : decode (mc mX10_done) 58 = .ok (.getfield 10, 3) := by decide +kernel
theorem dX10_done_61 : decode (mc mX10_done) 61 = .ok (.getfield 179, 3) := by decide +kernel
theorem dX10_done_64 : decode (mc mX10_done) 64 = .ok (.iload_n 1, 1) := by decide +kernel
theorem dX10_done_65 : decode (mc mX10_done) 65 = .ok (.iaload, 1) := by decide +kernel
theorem dX10_done_66 : decode (mc mX10_done) 66 = .ok (.iload_n 2, 1) := by decide +kernel
theorem dX10_done_67 : decode (mc mX10_done) 67 = .ok (.iconst 0, 1) := by decide +kernel
theorem dX10_done_68 : decode (mc mX10_done) 68 = .ok (.invokevirtual 182, 3) := by decide +kernel
theorem dX10_done_71 : decode (mc mX10_done) 71 = .ok (.ireturn, 1) := by decide +kernel
theorem dX10_given_0 : decode (mc mX10_given) 0 = .ok (.aload_n 0, 1) := by decide +kernel
theorem dX10_given_1 : decode (mc mX10_given) 1 = .ok (.getfield 10, 3) := by decide +kernel
theorem dX10_given_4 : decode (mc mX10_given) 4 = .ok (.iload_n 1, 1) := by decide +kernel
theorem dX10_given_5 : decode (mc mX10_given) 5 = .ok (.invokevirtual 167, 3) := by decide +kernel
theorem dX10_given_8 : decode (mc mX10_given) 8 = .ok (.ifCond .ne 14, 3) := by decide +kernel
theorem dX10_given_11 : decode (mc mX10_given) 11 = .ok (.aload_n 0, 1) := by decide +kernel
theorem dX10_given_12 : decode (mc mX10_given) 12 = .ok (.getfield 10, 3) := by decide +kernel
theorem dX10_given_15 : decode (mc mX10_given) 15 = .ok (.iload_n 3, 1) := by decide +kernel
theorem dX10_given_16 : decode (mc mX10_given) 16 = .ok (.invokevirtual 144, 3) := by decide +kernel
theorem dX10_given_19 : decode (mc mX10_given) 19 = .ok (.ifCond .eq 9, 3) := by decide +kernel
theorem dX10_given_22 : decode (mc mX10_given) 22 = .ok (.aload_n 0, 1) := by decide +kernel
theorem dX10_given_23 : decode (mc mX10_given) 23 = .ok (.iconst (-1), 1) := by decide +kernel
theorem dX10_given_24 : decode (mc mX10_given) 24 = .ok (.invokevirtual 92, 3) := by decide +kernel
theorem dX10_given_27 : decode (mc mX10_given) 27 = .ok (.ireturn, 1) := by decide +kernel
theorem dX10_given_28 : decode (mc mX10_given) 28 = .ok (.aload_n 0, 1) := by decide +kernel
theorem dX10_given_29 : decode (mc mX10_given) 29 = .ok (.iload_n 2, 1) := by decide +kernel
theorem dX10_given_30 : decode (mc mX10_given) 30 = .ok (.invokevirtual 170, 3) := by decide +kernel
theorem dX10_given_33 : decode (mc mX10_given) 33 = .ok (.istore 4, 2) := by decide +kernel
theorem dX10_given_35 : decode (mc mX10_given) 35 = .ok (.iload 4, 2) := by decide +kernel
theorem dX10_given_37 : decode (mc mX10_given) 37 = .ok (.ifCond .ge 10, 3) := by decide +kernel
theorem dX10_given_40 : decode (mc mX10_given) 40 = .ok (.aload_n 0, 1) := by decide +kernel
theorem dX10_given_41 : decode (mc mX10_given) 41 = .ok (.iload 4, 2) := by decide +kernel
theorem dX10_given_43 : decode (mc mX10_given) 43 = .ok (.invokevirtual 92, 3) := by decide +kernel
theorem dX10_given_46 : decode (mc mX10_given) 46 = .ok (.ireturn, 1) := by decide +kernel
theorem dX10_given_47 : decode (mc mX10_given) 47 = .ok (.iload_n 2, 1) := by decide +kernel
theorem dX10_given_48 : decode (mc mX10_given) 48 = .ok (.iload_n 3, 1) := by decide +kernel
theorem dX10_given_49 : decode (mc mX10_given) 49 = .ok (.ishr, 1) := by decide +kernel
theorem dX10_given_50 : decode (mc mX10_given) 50 = .ok (.iconst 1, 1) := by decide +kernel
theorem dX10_given_51 : decode (mc mX10_given) 51 = .ok (.iand, 1) := by decide +kernel
theorem dX10_given_52 : decode (mc mX10_given) 52 = .ok (.ifCond .ne 5, 3) := by decide +kernel
theorem dX10_given_55 : decode (mc mX10_given) 55 = .ok (.iconst 0, 1) := by decide +kernel
theorem dX10_given_56 : decode (mc mX10_given) 56 = .ok (.ireturn, 1) := by decide +kernel
theorem dX10_given_57 : decode (mc mX10_given) 57 = .ok (.aload_n 0, 1) := by decide +kernel
theorem dX10_given_58 : decode (mc mX10_given) 58 = .ok (.getfield 36, 3) := by decide +kernel
theorem dX10_given_61 : decode (mc mX10_given) 61 = .ok (.aload_n 0, 1) := by decide +kernel
theorem dX10_given_62 : decode (mc mX10_given) 62 = .ok (.getfield 10, 3) := by decide +kernel
theorem dX10_given_65 : decode (mc mX10_given) 65 = .ok (.invokevirtual 173, 3) := by decide +kernel
theorem dX10_given_68 : decode (mc mX10_given) 68 = .ok (.aload_n 0, 1) := by decide +kernel
theorem dX10_given_69 : decode (mc mX10_given) 69 = .ok (.getfield 36, 3) := by decide +kernel
theorem dX10_given_72 : decode (mc mX10_given) 72 = .ok (.aload_n 0, 1) := by decide +kernel
theorem dX10_given_73 : decode (mc mX10_given) 73 = .ok (.getfield 10, 3) := by decide +kernel
theorem dX10_given_76 : decode (mc mX10_given) 76 = .ok (.getfield 176, 3) := by decide +kernel
theorem dX10_given_79 : decode (mc mX10_given) 79 = .ok (.iload_n 1, 1) := by decide +kernel
theorem dX10_given_80 : decode (mc mX10_given) 80 = .ok (.iaload, 1) := by decide +kernel
theorem dX10_given_81 : decode (mc mX10_given) 81 = .ok (.aload_n 0, 1) := by decide +kernel
theorem dX10_given_82 : decode (mc mX10_given) 82 = .ok (.getfield 10, 3) := by decide +kernel
theorem dX10_given_85 : decode (mc mX10_given) 85 = .ok (.getfield 179, 3) := by decide +kernel
theorem dX10_given_88 : decode (mc mX10_given) 88 = .ok (.iload_n 1, 1) := by decide +kernel
theorem dX10_given_89 : decode (mc mX10_given) 89 = .ok (.iaload, 1) := by decide +kernel
theorem dX10_given_90 : decode (mc mX10_given) 90 = .ok (.iload_n 2, 1) := by decide +kernel
theorem dX10_given_91 : decode (mc mX10_given) 91 = .ok (.iconst 0, 1) := by decide +kernel
theorem dX10_given_92 : decode (mc mX10_given) 92 = .ok (.invokevirtual 182, 3) := by decide +kernel
theorem dX10_given_95 : decode (mc mX10_given) 95 = .ok (.istore 5, 2) := by decide +kernel
theorem dX10_given_97 : decode (mc mX10_given) 97 = .ok (.iload 5, 2) := by decide +kernel
theorem dX10_given_99 : decode (mc mX10_given) 99 = .ok (.ifCond .ge 8, 3) := by decide +kernel
theorem dX10_given_102 : decode (mc mX10_given) 102 = .ok (.bipush (-9), 2) := by decide +kernel
theorem dX10_given_104 : decode (mc mX10_given) 104 = .ok (.goto 12, 3) := by decide +kernel
theorem dX10_given_107 : decode (mc mX10_given) 107 = .ok (.aload_n 0, 1) := by decide +kernel
theorem dX10_given_108 : decode (mc mX10_given) 108 = .ok (.getfield 36, 3) := by decide +kernel
theorem dX10_given_111 : decode (mc mX10_given) 111 = .ok (.getfield 185, 3) := by decide +kernel
theorem dX10_given_114 : decode (mc mX10_given) 114 = .ok (.iload_n 3, 1) := by decide +kernel
theorem dX10_given_115 : decode (mc mX10_given) 115 = .ok (.iaload, 1) := by decide +kernel
theorem dX10_given_116 : decode (mc mX10_given) 116 = .ok (.ireturn, 1) := by decide +kernel
theorem dX10_best_0 : decode (mc mX10_best) 0 = .ok (.aload_n 0, 1) := by decide +kernel
theorem dX10_best_1 : decode (mc mX10_best) 1 = .ok (.invokevirtual 188, 3) := by decide +kernel
theorem dX10_best_4 : decode (mc mX10_best) 4 = .ok (.ireturn, 1) := by decide +kernel
theorem dX10_row_0 : decode (mc mX10_row) 0 = .ok (.aload_n 0, 1) := by decide +kernel
theorem dX10_row_1 : decode (mc mX10_row) 1 = .ok (.getfield 10, 3) := by decide +kernel
theorem dX10_row_4 : decode (mc mX10_row) 4 = .ok (.iload_n 1, 1) := by decide +kernel
theorem dX10_row_5 : decode (mc mX10_row) 5 = .ok (.invokevirtual 144, 3) := by decide +kernel
theorem dX10_row_8 : decode (mc mX10_row) 8 = .ok (.ifCond .eq 9, 3) := by decide +kernel
theorem dX10_row_11 : decode (mc mX10_row) 11 = .ok (.aload_n 0, 1) := by decide +kernel
theorem dX10_row_12 : decode (mc mX10_row) 12 = .ok (.iconst (-1), 1) := by decide +kernel
theorem dX10_row_13 : decode (mc mX10_row) 13 = .ok (.invokevirtual 92, 3) := by decide +kernel
theorem dX10_row_16 : decode (mc mX10_row) 16 = .ok (.ireturn, 1) := by decide +kernel
theorem dX10_row_17 : decode (mc mX10_row) 17 = .ok (.aload_n 0, 1) := by decide +kernel
theorem dX10_row_18 : decode (mc mX10_row) 18 = .ok (.invokevirtual 188, 3) := by decide +kernel
theorem dX10_row_21 : decode (mc mX10_row) 21 = .ok (.ifCond .ge 8, 3) := by decide +kernel
theorem dX10_row_24 : decode (mc mX10_row) 24 = .ok (.bipush (-9), 2) := by decide +kernel
theorem dX10_row_26 : decode (mc mX10_row) 26 = .ok (.goto 12, 3) := by decide +kernel
theorem dX10_row_29 : decode (mc mX10_row) 29 = .ok (.aload_n 0, 1) := by decide +kernel
theorem dX10_row_30 : decode (mc mX10_row) 30 = .ok (.getfield 52, 3) := by decide +kernel
theorem dX10_row_33 : decode (mc mX10_row) 33 = .ok (.getfield 191, 3) := by decide +kernel
theorem dX10_row_36 : decode (mc mX10_row) 36 = .ok (.iload_n 1, 1) := by decide +kernel
theorem dX10_row_37 : decode (mc mX10_row) 37 = .ok (.iaload, 1) := by decide +kernel
theorem dX10_row_38 : decode (mc mX10_row) 38 = .ok (.ireturn, 1) := by decide +kernel
theorem dX10_cost_0 : decode (mc mX10_cost) 0 = .ok (.aload_n 0, 1) := by decide +kernel
theorem dX10_cost_1 : decode (mc mX10_cost) 1 = .ok (.getfield 10, 3) := by decide +kernel
theorem dX10_cost_4 : decode (mc mX10_cost) 4 = .ok (.iload_n 1, 1) := by decide +kernel
theorem dX10_cost_5 : decode (mc mX10_cost) 5 = .ok (.invokevirtual 167, 3) := by decide +kernel
theorem dX10_cost_8 : decode (mc mX10_cost) 8 = .ok (.ifCond .eq 9, 3) := by decide +kernel
theorem dX10_cost_11 : decode (mc mX10_cost) 11 = .ok (.aload_n 0, 1) := by decide +kernel
theorem dX10_cost_12 : decode (mc mX10_cost) 12 = .ok (.iconst (-1), 1) := by decide +kernel
theorem dX10_cost_13 : decode (mc mX10_cost) 13 = .ok (.invokevirtual 92, 3) := by decide +kernel
theorem dX10_cost_16 : decode (mc mX10_cost) 16 = .ok (.ireturn, 1) := by decide +kernel
theorem dX10_cost_17 : decode (mc mX10_cost) 17 = .ok (.aload_n 0, 1) := by decide +kernel
theorem dX10_cost_18 : decode (mc mX10_cost) 18 = .ok (.invokevirtual 188, 3) := by decide +kernel
theorem dX10_cost_21 : decode (mc mX10_cost) 21 = .ok (.ifCond .ge 6, 3) := by decide +kernel
theorem dX10_cost_24 : decode (mc mX10_cost) 24 = .ok (.bipush (-9), 2) := by decide +kernel
theorem dX10_cost_26 : decode (mc mX10_cost) 26 = .ok (.ireturn, 1) := by decide +kernel
theorem dX10_cost_27 : decode (mc mX10_cost) 27 = .ok (.aload_n 0, 1) := by decide +kernel
theorem dX10_cost_28 : decode (mc mX10_cost) 28 = .ok (.getfield 45, 3) := by decide +kernel
theorem dX10_cost_31 : decode (mc mX10_cost) 31 = .ok (.invokevirtual 194, 3) := by decide +kernel
theorem dX10_cost_34 : decode (mc mX10_cost) 34 = .ok (.iconst 0, 1) := by decide +kernel
theorem dX10_cost_35 : decode (mc mX10_cost) 35 = .ok (.istore_n 2, 1) := by decide +kernel
theorem dX10_cost_36 : decode (mc mX10_cost) 36 = .ok (.iconst 0, 1) := by decide +kernel
theorem dX10_cost_37 : decode (mc mX10_cost) 37 = .ok (.istore_n 3, 1) := by decide +kernel
theorem dX10_cost_38 : decode (mc mX10_cost) 38 = .ok (.iload_n 3, 1) := by decide +kernel
theorem dX10_cost_39 : decode (mc mX10_cost) 39 = .ok (.iload_n 1, 1) := by decide +kernel
theorem dX10_cost_40 : decode (mc mX10_cost) 40 = .ok (.if_icmp .gt 26, 3) := by decide +kernel
theorem dX10_cost_43 : decode (mc mX10_cost) 43 = .ok (.aload_n 0, 1) := by decide +kernel
theorem dX10_cost_44 : decode (mc mX10_cost) 44 = .ok (.getfield 45, 3) := by decide +kernel
theorem dX10_cost_47 : decode (mc mX10_cost) 47 = .ok (.iload_n 3, 1) := by decide +kernel
theorem dX10_cost_48 : decode (mc mX10_cost) 48 = .ok (.aload_n 0, 1) := by decide +kernel
theorem dX10_cost_49 : decode (mc mX10_cost) 49 = .ok (.getfield 52, 3) := by decide +kernel
theorem dX10_cost_52 : decode (mc mX10_cost) 52 = .ok (.iload_n 3, 1) := by decide +kernel
theorem dX10_cost_53 : decode (mc mX10_cost) 53 = .ok (.invokevirtual 197, 3) := by decide +kernel
theorem dX10_cost_56 : decode (mc mX10_cost) 56 = .ok (.invokevirtual 200, 3) := by decide +kernel
theorem dX10_cost_59 : decode (mc mX10_cost) 59 = .ok (.istore_n 2, 1) := by decide +kernel
theorem dX10_cost_60 : decode (mc mX10_cost) 60 = .ok (.iinc 3 1, 3) := by decide +kernel
theorem dX10_cost_63 : decode (mc mX10_cost) 63 = .ok (.goto (-25), 3) := by decide +kernel
theorem dX10_cost_66 : decode (mc mX10_cost) 66 = .ok (.iload_n 2, 1) := by decide +kernel
theorem dX10_cost_67 : decode (mc mX10_cost) 67 = .ok (.ireturn, 1) := by decide +kernel
theorem dX10_margin_0 : decode (mc mX10_margin) 0 = .ok (.aload_n 0, 1) := by decide +kernel
theorem dX10_margin_1 : decode (mc mX10_margin) 1 = .ok (.getfield 10, 3) := by decide +kernel
theorem dX10_margin_4 : decode (mc mX10_margin) 4 = .ok (.iload_n 1, 1) := by decide +kernel
theorem dX10_margin_5 : decode (mc mX10_margin) 5 = .ok (.invokevirtual 167, 3) := by decide +kernel
theorem dX10_margin_8 : decode (mc mX10_margin) 8 = .ok (.ifCond .eq 9, 3) := by decide +kernel
theorem dX10_margin_11 : decode (mc mX10_margin) 11 = .ok (.aload_n 0, 1) := by decide +kernel
theorem dX10_margin_12 : decode (mc mX10_margin) 12 = .ok (.iconst (-1), 1) := by decide +kernel
theorem dX10_margin_13 : decode (mc mX10_margin) 13 = .ok (.invokevirtual 92, 3) := by decide +kernel
theorem dX10_margin_16 : decode (mc mX10_margin) 16 = .ok (.ireturn, 1) := by decide +kernel
theorem dX10_margin_17 : decode (mc mX10_margin) 17 = .ok (.aload_n 0, 1) := by decide +kernel
theorem dX10_margin_18 : decode (mc mX10_margin) 18 = .ok (.invokevirtual 188, 3) := by decide +kernel
theorem dX10_margin_21 : decode (mc mX10_margin) 21 = .ok (.istore_n 2, 1) := by decide +kernel
theorem dX10_margin_22 : decode (mc mX10_margin) 22 = .ok (.aload_n 0, 1) := by decide +kernel
theorem dX10_margin_23 : decode (mc mX10_margin) 23 = .ok (.getfield 52, 3) := by decide +kernel
theorem dX10_margin_26 : decode (mc mX10_margin) 26 = .ok (.invokevirtual 203, 3) := by decide +kernel
theorem dX10_margin_29 : decode (mc mX10_margin) 29 = .ok (.aload_n 0, 1) := by decide +kernel
theorem dX10_margin_30 : decode (mc mX10_margin) 30 = .ok (.getfield 52, 3) := by decide +kernel
theorem dX10_margin_33 : decode (mc mX10_margin) 33 = .ok (.getfield 206, 3) := by decide +kernel
theorem dX10_margin_36 : decode (mc mX10_margin) 36 = .ok (.iload_n 1, 1) := by decide +kernel
theorem dX10_margin_37 : decode (mc mX10_margin) 37 = .ok (.dup2, 1) := by decide +kernel
theorem dX10_margin_38 : decode (mc mX10_margin) 38 = .ok (.iaload, 1) := by decide +kernel
theorem dX10_margin_39 : decode (mc mX10_margin) 39 = .ok (.iconst 1, 1) := by decide +kernel
theorem dX10_margin_40 : decode (mc mX10_margin) 40 = .ok (.iadd, 1) := by decide +kernel
theorem dX10_margin_41 : decode (mc mX10_margin) 41 = .ok (.iastore, 1) := by decide +kernel
theorem dX10_margin_42 : decode (mc mX10_margin) 42 = .ok (.aload_n 0, 1) := by decide +kernel
theorem dX10_margin_43 : decode (mc mX10_margin) 43 = .ok (.getfield 52, 3) := by decide +kernel
theorem dX10_margin_46 : decode (mc mX10_margin) 46 = .ok (.invokevirtual 207, 3) := by decide +kernel
theorem dX10_margin_49 : decode (mc mX10_margin) 49 = .ok (.iload_n 2, 1) := by decide +kernel
theorem dX10_margin_50 : decode (mc mX10_margin) 50 = .ok (.invokestatic 210, 3) := by decide +kernel
theorem dX10_margin_53 : decode (mc mX10_margin) 53 = .ok (.ireturn, 1) := by decide +kernel
theorem dX10_worth_0 : decode (mc mX10_worth) 0 = .ok (.aload_n 0, 1) := by decide +kernel
theorem dX10_worth_1 : decode (mc mX10_worth) 1 = .ok (.getfield 10, 3) := by decide +kernel
theorem dX10_worth_4 : decode (mc mX10_worth) 4 = .ok (.iload_n 1, 1) := by decide +kernel
theorem dX10_worth_5 : decode (mc mX10_worth) 5 = .ok (.invokevirtual 144, 3) := by decide +kernel
theorem dX10_worth_8 : decode (mc mX10_worth) 8 = .ok (.ifCond .eq 9, 3) := by decide +kernel
theorem dX10_worth_11 : decode (mc mX10_worth) 11 = .ok (.aload_n 0, 1) := by decide +kernel
theorem dX10_worth_12 : decode (mc mX10_worth) 12 = .ok (.iconst (-1), 1) := by decide +kernel
theorem dX10_worth_13 : decode (mc mX10_worth) 13 = .ok (.invokevirtual 92, 3) := by decide +kernel
theorem dX10_worth_16 : decode (mc mX10_worth) 16 = .ok (.ireturn, 1) := by decide +kernel
theorem dX10_worth_17 : decode (mc mX10_worth) 17 = .ok (.aload_n 0, 1) := by decide +kernel
theorem dX10_worth_18 : decode (mc mX10_worth) 18 = .ok (.invokevirtual 188, 3) := by decide +kernel
theorem dX10_worth_21 : decode (mc mX10_worth) 21 = .ok (.istore_n 2, 1) := by decide +kernel
theorem dX10_worth_22 : decode (mc mX10_worth) 22 = .ok (.aload_n 0, 1) := by decide +kernel
theorem dX10_worth_23 : decode (mc mX10_worth) 23 = .ok (.getfield 52, 3) := by decide +kernel
theorem dX10_worth_26 : decode (mc mX10_worth) 26 = .ok (.invokevirtual 203, 3) := by decide +kernel
theorem dX10_worth_29 : decode (mc mX10_worth) 29 = .ok (.aload_n 0, 1) := by decide +kernel
theorem dX10_worth_30 : decode (mc mX10_worth) 30 = .ok (.getfield 52, 3) := by decide +kernel
theorem dX10_worth_33 : decode (mc mX10_worth) 33 = .ok (.dup, 1) := by decide +kernel
theorem dX10_worth_34 : decode (mc mX10_worth) 34 = .ok (.getfield 213, 3) := by decide +kernel
theorem dX10_worth_37 : decode (mc mX10_worth) 37 = .ok (.iconst 1, 1) := by decide +kernel
theorem dX10_worth_38 : decode (mc mX10_worth) 38 = .ok (.iload_n 1, 1) := by decide +kernel
theorem dX10_worth_39 : decode (mc mX10_worth) 39 = .ok (.ishl, 1) := by decide +kernel
theorem dX10_worth_40 : decode (mc mX10_worth) 40 = .ok (.iconst (-1), 1) := by decide +kernel
theorem dX10_worth_41 : decode (mc mX10_worth) 41 = .ok (.ixor, 1) := by decide +kernel
theorem dX10_worth_42 : decode (mc mX10_worth) 42 = .ok (.iand, 1) := by decide +kernel
theorem dX10_worth_43 : decode (mc mX10_worth) 43 = .ok (.putfield 213, 3) := by decide +kernel
theorem dX10_worth_46 : decode (mc mX10_worth) 46 = .ok (.aload_n 0, 1) := by decide +kernel
theorem dX10_worth_47 : decode (mc mX10_worth) 47 = .ok (.getfield 52, 3) := by decide +kernel
theorem dX10_worth_50 : decode (mc mX10_worth) 50 = .ok (.invokevirtual 207, 3) := by decide +kernel
theorem dX10_worth_53 : decode (mc mX10_worth) 53 = .ok (.iload_n 2, 1) := by decide +kernel
theorem dX10_worth_54 : decode (mc mX10_worth) 54 = .ok (.invokestatic 210, 3) := by decide +kernel
theorem dX10_worth_57 : decode (mc mX10_worth) 57 = .ok (.ireturn, 1) := by decide +kernel
theorem dX10_hand_0 : decode (mc mX10_hand) 0 = .ok (.aload_n 0, 1) := by decide +kernel
theorem dX10_hand_1 : decode (mc mX10_hand) 1 = .ok (.invokevirtual 188, 3) := by decide +kernel
theorem dX10_hand_4 : decode (mc mX10_hand) 4 = .ok (.ifCond .ge 6, 3) := by decide +kernel
theorem dX10_hand_7 : decode (mc mX10_hand) 7 = .ok (.bipush (-9), 2) := by decide +kernel
theorem dX10_hand_9 : decode (mc mX10_hand) 9 = .ok (.ireturn, 1) := by decide +kernel
theorem dX10_hand_10 : decode (mc mX10_hand) 10 = .ok (.iconst 0, 1) := by decide +kernel
theorem dX10_hand_11 : decode (mc mX10_hand) 11 = .ok (.istore_n 1, 1) := by decide +kernel
theorem dX10_hand_12 : decode (mc mX10_hand) 12 = .ok (.bipush 61, 2) := by decide +kernel
theorem dX10_hand_14 : decode (mc mX10_hand) 14 = .ok (.istore_n 2, 1) := by decide +kernel
theorem dX10_hand_15 : decode (mc mX10_hand) 15 = .ok (.iconst 0, 1) := by decide +kernel
theorem dX10_hand_16 : decode (mc mX10_hand) 16 = .ok (.istore_n 3, 1) := by decide +kernel
theorem dX10_hand_17 : decode (mc mX10_hand) 17 = .ok (.iload_n 3, 1) := by decide +kernel
theorem dX10_hand_18 : decode (mc mX10_hand) 18 = .ok (.bipush 60, 2) := by decide +kernel
theorem dX10_hand_20 : decode (mc mX10_hand) 20 = .ok (.if_icmp .ge 41, 3) := by decide +kernel
theorem dX10_hand_23 : decode (mc mX10_hand) 23 = .ok (.iload_n 2, 1) := by decide +kernel
theorem dX10_hand_24 : decode (mc mX10_hand) 24 = .ok (.iload_n 1, 1) := by decide +kernel
theorem dX10_hand_25 : decode (mc mX10_hand) 25 = .ok (.isub, 1) := by decide +kernel
theorem dX10_hand_26 : decode (mc mX10_hand) 26 = .ok (.iconst 1, 1) := by decide +kernel
theorem dX10_hand_27 : decode (mc mX10_hand) 27 = .ok (.if_icmp .le 34, 3) := by decide +kernel
theorem dX10_hand_30 : decode (mc mX10_hand) 30 = .ok (.iload_n 1, 1) := by decide +kernel
theorem dX10_hand_31 : decode (mc mX10_hand) 31 = .ok (.iload_n 2, 1) := by decide +kernel
theorem dX10_hand_32 : decode (mc mX10_hand) 32 = .ok (.iadd, 1) := by decide +kernel
theorem dX10_hand_33 : decode (mc mX10_hand) 33 = .ok (.iconst 2, 1) := by decide +kernel
theorem dX10_hand_34 : decode (mc mX10_hand) 34 = .ok (.idiv, 1) := by decide +kernel
theorem dX10_hand_35 : decode (mc mX10_hand) 35 = .ok (.istore 4, 2) := by decide +kernel
theorem dX10_hand_37 : decode (mc mX10_hand) 37 = .ok (.aload_n 0, 1) := by decide +kernel
theorem dX10_hand_38 : decode (mc mX10_hand) 38 = .ok (.iload 4, 2) := by decide +kernel
theorem dX10_hand_40 : decode (mc mX10_hand) 40 = .ok (.invokevirtual 216, 3) := by decide +kernel
theorem dX10_hand_43 : decode (mc mX10_hand) 43 = .ok (.ifCond .eq 9, 3) := by decide +kernel
theorem dX10_hand_46 : decode (mc mX10_hand) 46 = .ok (.iload 4, 2) := by decide +kernel
theorem dX10_hand_48 : decode (mc mX10_hand) 48 = .ok (.istore_n 1, 1) := by decide +kernel
theorem dX10_hand_49 : decode (mc mX10_hand) 49 = .ok (.goto 6, 3) := by decide +kernel
theorem dX10_hand_52 : decode (mc mX10_hand) 52 = .ok (.iload 4, 2) := by decide +kernel
theorem dX10_hand_54 : decode (mc mX10_hand) 54 = .ok (.istore_n 2, 1) := by decide +kernel
theorem dX10_hand_55 : decode (mc mX10_hand) 55 = .ok (.iinc 3 1, 3) := by decide +kernel
theorem dX10_hand_58 : decode (mc mX10_hand) 58 = .ok (.goto (-41), 3) := by decide +kernel
theorem dX10_hand_61 : decode (mc mX10_hand) 61 = .ok (.iload_n 1, 1) := by decide +kernel
theorem dX10_hand_62 : decode (mc mX10_hand) 62 = .ok (.ireturn, 1) := by decide +kernel
theorem dX10_likely_0 : decode (mc mX10_likely) 0 = .ok (.iload_n 1, 1) := by decide +kernel
theorem dX10_likely_1 : decode (mc mX10_likely) 1 = .ok (.iconst 2, 1) := by decide +kernel
theorem dX10_likely_2 : decode (mc mX10_likely) 2 = .ok (.if_icmp .ge 10, 3) := by decide +kernel
theorem dX10_likely_5 : decode (mc mX10_likely) 5 = .ok (.aload_n 0, 1) := by decide +kernel
theorem dX10_likely_6 : decode (mc mX10_likely) 6 = .ok (.bipush (-4), 2) := by decide +kernel
theorem dX10_likely_8 : decode (mc mX10_likely) 8 = .ok (.invokevirtual 219, 3) := by decide +kernel
theorem dX10_likely_11 : decode (mc mX10_likely) 11 = .ok (.lreturn, 1) := by decide +kernel
theorem dX10_likely_12 : decode (mc mX10_likely) 12 = .ok (.iload_n 1, 1) := by decide +kernel
theorem dX10_likely_13 : decode (mc mX10_likely) 13 = .ok (.bipush 20, 2) := by decide +kernel
theorem dX10_likely_15 : decode (mc mX10_likely) 15 = .ok (.if_icmp .le 10, 3) := by decide +kernel
theorem dX10_likely_18 : decode (mc mX10_likely) 18 = .ok (.aload_n 0, 1) := by decide +kernel
theorem dX10_likely_19 : decode (mc mX10_likely) 19 = .ok (.bipush (-6), 2) := by decide +kernel
theorem dX10_likely_21 : decode (mc mX10_likely) 21 = .ok (.invokevirtual 219, 3) := by decide +kernel
theorem dX10_likely_24 : decode (mc mX10_likely) 24 = .ok (.lreturn, 1) := by decide +kernel
theorem dX10_likely_25 : decode (mc mX10_likely) 25 = .ok (.iload_n 2, 1) := by decide +kernel
theorem dX10_likely_26 : decode (mc mX10_likely) 26 = .ok (.ifCond .lt 8, 3) := by decide +kernel
theorem dX10_likely_29 : decode (mc mX10_likely) 29 = .ok (.iload_n 2, 1) := by decide +kernel
theorem dX10_likely_30 : decode (mc mX10_likely) 30 = .ok (.iconst 1, 1) := by decide +kernel
theorem dX10_likely_31 : decode (mc mX10_likely) 31 = .ok (.if_icmp .le 10, 3) := by decide +kernel
theorem dX10_likely_34 : decode (mc mX10_likely) 34 = .ok (.aload_n 0, 1) := by decide +kernel
theorem dX10_likely_35 : decode (mc mX10_likely) 35 = .ok (.bipush (-2), 2) := by decide +kernel
theorem dX10_likely_37 : decode (mc mX10_likely) 37 = .ok (.invokevirtual 219, 3) := by decide +kernel
theorem dX10_likely_40 : decode (mc mX10_likely) 40 = .ok (.lreturn, 1) := by decide +kernel
theorem dX10_likely_41 : decode (mc mX10_likely) 41 = .ok (.iconst 0, 1) := by decide +kernel
theorem dX10_likely_42 : decode (mc mX10_likely) 42 = .ok (.istore_n 3, 1) := by decide +kernel
theorem dX10_likely_43 : decode (mc mX10_likely) 43 = .ok (.iconst 0, 1) := by decide +kernel
theorem dX10_likely_44 : decode (mc mX10_likely) 44 = .ok (.istore 4, 2) := by decide +kernel
theorem dX10_likely_46 : decode (mc mX10_likely) 46 = .ok (.iload 4, 2) := by decide +kernel
theorem dX10_likely_48 : decode (mc mX10_likely) 48 = .ok (.iconst 1, 1) := by decide +kernel
theorem dX10_likely_49 : decode (mc mX10_likely) 49 = .ok (.aload_n 0, 1) := by decide +kernel
theorem dX10_likely_50 : decode (mc mX10_likely) 50 = .ok (.getfield 10, 3) := by decide +kernel
theorem dX10_likely_53 : decode (mc mX10_likely) 53 = .ok (.getfield 223, 3) := by decide +kernel
theorem dX10_likely_56 : decode (mc mX10_likely) 56 = .ok (.ishl, 1) := by decide +kernel
theorem dX10_likely_57 : decode (mc mX10_likely) 57 = .ok (.if_icmp .ge 49, 3) := by decide +kernel
theorem dX10_likely_60 : decode (mc mX10_likely) 60 = .ok (.aload_n 0, 1) := by decide +kernel
theorem dX10_likely_61 : decode (mc mX10_likely) 61 = .ok (.getfield 52, 3) := by decide +kernel
theorem dX10_likely_64 : decode (mc mX10_likely) 64 = .ok (.invokevirtual 203, 3) := by decide +kernel
theorem dX10_likely_67 : decode (mc mX10_likely) 67 = .ok (.aload_n 0, 1) := by decide +kernel
theorem dX10_likely_68 : decode (mc mX10_likely) 68 = .ok (.getfield 52, 3) := by decide +kernel
theorem dX10_likely_71 : decode (mc mX10_likely) 71 = .ok (.iload 4, 2) := by decide +kernel
theorem dX10_likely_73 : decode (mc mX10_likely) 73 = .ok (.putfield 213, 3) := by decide +kernel
theorem dX10_likely_76 : decode (mc mX10_likely) 76 = .ok (.aload_n 0, 1) := by decide +kernel
theorem dX10_likely_77 : decode (mc mX10_likely) 77 = .ok (.getfield 52, 3) := by decide +kernel
theorem dX10_likely_80 : decode (mc mX10_likely) 80 = .ok (.invokevirtual 207, 3) := by decide +kernel
theorem dX10_likely_83 : decode (mc mX10_likely) 83 = .ok (.ifCond .lt 17, 3) := by decide +kernel
theorem dX10_likely_86 : decode (mc mX10_likely) 86 = .ok (.iload_n 3, 1) := by decide +kernel
theorem dX10_likely_87 : decode (mc mX10_likely) 87 = .ok (.iload_n 1, 1) := by decide +kernel
theorem dX10_likely_88 : decode (mc mX10_likely) 88 = .ok (.iconst 1, 1) := by decide +kernel
theorem dX10_likely_89 : decode (mc mX10_likely) 89 = .ok (.isub, 1) := by decide +kernel
theorem dX10_likely_90 : decode (mc mX10_likely) 90 = .ok (.iload 4, 2) := by decide +kernel
theorem dX10_likely_92 : decode (mc mX10_likely) 92 = .ok (.invokestatic 224, 3) := by decide +kernel
theorem dX10_likely_95 : decode (mc mX10_likely) 95 = .ok (.invokestatic 229, 3) := by decide +kernel
theorem dX10_likely_98 : decode (mc mX10_likely) 98 = .ok (.iadd, 1) := by decide +kernel
theorem dX10_likely_99 : decode (mc mX10_likely) 99 = .ok (.istore_n 3, 1) := by decide +kernel
theorem dX10_likely_100 : decode (mc mX10_likely) 100 = .ok (.iinc 4 1, 3) := by decide +kernel
theorem dX10_likely_103 : decode (mc mX10_likely) 103 = .ok (.goto (-57), 3) := by decide +kernel
theorem dX10_likely_106 : decode (mc mX10_likely) 106 = .ok (.iload_n 1, 1) := by decide +kernel
theorem dX10_likely_107 : decode (mc mX10_likely) 107 = .ok (.aload_n 0, 1) := by decide +kernel
theorem dX10_likely_108 : decode (mc mX10_likely) 108 = .ok (.getfield 10, 3) := by decide +kernel
theorem dX10_likely_111 : decode (mc mX10_likely) 111 = .ok (.getfield 223, 3) := by decide +kernel
theorem dX10_likely_114 : decode (mc mX10_likely) 114 = .ok (.invokestatic 229, 3) := by decide +kernel
theorem dX10_likely_117 : decode (mc mX10_likely) 117 = .ok (.istore 4, 2) := by decide +kernel
theorem dX10_likely_119 : decode (mc mX10_likely) 119 = .ok (.iload_n 3, 1) := by decide +kernel
theorem dX10_likely_120 : decode (mc mX10_likely) 120 = .ok (.iload 4, 2) := by decide +kernel
theorem dX10_likely_122 : decode (mc mX10_likely) 122 = .ok (.invokestatic 232, 3) := by decide +kernel
theorem dX10_likely_125 : decode (mc mX10_likely) 125 = .ok (.istore 5, 2) := by decide +kernel
theorem dX10_likely_127 : decode (mc mX10_likely) 127 = .ok (.iload_n 2, 1) := by decide +kernel
theorem dX10_likely_128 : decode (mc mX10_likely) 128 = .ok (.ifCond .ne 11, 3) := by decide +kernel
theorem dX10_likely_131 : decode (mc mX10_likely) 131 = .ok (.iload_n 3, 1) := by decide +kernel
theorem dX10_likely_132 : decode (mc mX10_likely) 132 = .ok (.iload 5, 2) := by decide +kernel
theorem dX10_likely_134 : decode (mc mX10_likely) 134 = .ok (.idiv, 1) := by decide +kernel
theorem dX10_likely_135 : decode (mc mX10_likely) 135 = .ok (.i2l, 1) := by decide +kernel
theorem dX10_likely_136 : decode (mc mX10_likely) 136 = .ok (.goto 9, 3) := by decide +kernel
theorem dX10_likely_139 : decode (mc mX10_likely) 139 = .ok (.iload 4, 2) := by decide +kernel
theorem dX10_likely_141 : decode (mc mX10_likely) 141 = .ok (.iload 5, 2) := by decide +kernel
theorem dX10_likely_143 : decode (mc mX10_likely) 143 = .ok (.idiv, 1) := by decide +kernel
theorem dX10_likely_144 : decode (mc mX10_likely) 144 = .ok (.i2l, 1) := by decide +kernel
theorem dX10_likely_145 : decode (mc mX10_likely) 145 = .ok (.lreturn, 1) := by decide +kernel
theorem dX10_shown_0 : decode (mc mX10_shown) 0 = .ok (.iload_n 1, 1) := by decide +kernel
theorem dX10_shown_1 : decode (mc mX10_shown) 1 = .ok (.ifCond .lt 8, 3) := by decide +kernel
theorem dX10_shown_4 : decode (mc mX10_shown) 4 = .ok (.iload_n 1, 1) := by decide +kernel
theorem dX10_shown_5 : decode (mc mX10_shown) 5 = .ok (.iconst 2, 1) := by decide +kernel
theorem dX10_shown_6 : decode (mc mX10_shown) 6 = .ok (.if_icmp .le 10, 3) := by decide +kernel
theorem dX10_shown_9 : decode (mc mX10_shown) 9 = .ok (.aload_n 0, 1) := by decide +kernel
theorem dX10_shown_10 : decode (mc mX10_shown) 10 = .ok (.bipush (-2), 2) := by decide +kernel
theorem dX10_shown_12 : decode (mc mX10_shown) 12 = .ok (.invokevirtual 219, 3) := by decide +kernel
theorem dX10_shown_15 : decode (mc mX10_shown) 15 = .ok (.lreturn, 1) := by decide +kernel
theorem dX10_shown_16 : decode (mc mX10_shown) 16 = .ok (.aload_n 0, 1) := by decide +kernel
theorem dX10_shown_17 : decode (mc mX10_shown) 17 = .ok (.invokevirtual 188, 3) := by decide +kernel
theorem dX10_shown_20 : decode (mc mX10_shown) 20 = .ok (.istore_n 2, 1) := by decide +kernel
theorem dX10_shown_21 : decode (mc mX10_shown) 21 = .ok (.aload_n 0, 1) := by decide +kernel
theorem dX10_shown_22 : decode (mc mX10_shown) 22 = .ok (.getfield 10, 3) := by decide +kernel
theorem dX10_shown_25 : decode (mc mX10_shown) 25 = .ok (.invokevirtual 235, 3) := by decide +kernel
theorem dX10_shown_28 : decode (mc mX10_shown) 28 = .ok (.istore_n 3, 1) := by decide +kernel
theorem dX10_shown_29 : decode (mc mX10_shown) 29 = .ok (.iload_n 2, 1) := by decide +kernel
theorem dX10_shown_30 : decode (mc mX10_shown) 30 = .ok (.ifCond .lt 11, 3) := by decide +kernel
theorem dX10_shown_33 : decode (mc mX10_shown) 33 = .ok (.iload_n 1, 1) := by decide +kernel
theorem dX10_shown_34 : decode (mc mX10_shown) 34 = .ok (.ifCond .ne 14, 3) := by decide +kernel
theorem dX10_shown_37 : decode (mc mX10_shown) 37 = .ok (.iload_n 3, 1) := by decide +kernel
theorem dX10_shown_38 : decode (mc mX10_shown) 38 = .ok (.ifCond .ne 10, 3) := by decide +kernel
theorem dX10_shown_41 : decode (mc mX10_shown) 41 = .ok (.aload_n 0, 1) := by decide +kernel
theorem dX10_shown_42 : decode (mc mX10_shown) 42 = .ok (.bipush (-3), 2) := by decide +kernel
theorem dX10_shown_44 : decode (mc mX10_shown) 44 = .ok (.invokevirtual 219, 3) := by decide +kernel
theorem dX10_shown_47 : decode (mc mX10_shown) 47 = .ok (.lreturn, 1) := by decide +kernel
theorem dX10_shown_48 : decode (mc mX10_shown) 48 = .ok (.iload_n 1, 1) := by decide +kernel
theorem dX10_shown_49 : decode (mc mX10_shown) 49 = .ok (.ifCond .ne 13, 3) := by decide +kernel
theorem dX10_shown_52 : decode (mc mX10_shown) 52 = .ok (.iload_n 2, 1) := by decide +kernel
theorem dX10_shown_53 : decode (mc mX10_shown) 53 = .ok (.i2f, 1) := by decide +kernel
theorem dX10_shown_54 : decode (mc mX10_shown) 54 = .ok (.iload_n 3, 1) := by decide +kernel
theorem dX10_shown_55 : decode (mc mX10_shown) 55 = .ok (.i2f, 1) := by decide +kernel
theorem dX10_shown_56 : decode (mc mX10_shown) 56 = .ok (.fdiv, 1) := by decide +kernel
theorem dX10_shown_57 : decode (mc mX10_shown) 57 = .ok (.invokestatic 238, 3) := by decide +kernel
theorem dX10_shown_60 : decode (mc mX10_shown) 60 = .ok (.i2l, 1) := by decide +kernel
theorem dX10_shown_61 : decode (mc mX10_shown) 61 = .ok (.lreturn, 1) := by decide +kernel
theorem dX10_shown_62 : decode (mc mX10_shown) 62 = .ok (.aload_n 0, 1) := by decide +kernel
theorem dX10_shown_63 : decode (mc mX10_shown) 63 = .ok (.invokevirtual 242, 3) := by decide +kernel
theorem dX10_shown_66 : decode (mc mX10_shown) 66 = .ok (.fstore 4, 2) := by decide +kernel
theorem dX10_shown_68 : decode (mc mX10_shown) 68 = .ok (.iload_n 1, 1) := by decide +kernel
theorem dX10_shown_69 : decode (mc mX10_shown) 69 = .ok (.iconst 1, 1) := by decide +kernel
theorem dX10_shown_70 : decode (mc mX10_shown) 70 = .ok (.if_icmp .ne 12, 3) := by decide +kernel
theorem dX10_shown_73 : decode (mc mX10_shown) 73 = .ok (.fload 4, 2) := by decide +kernel
theorem dX10_shown_75 : decode (mc mX10_shown) 75 = .ok (.invokestatic 238, 3) := by decide +kernel
theorem dX10_shown_78 : decode (mc mX10_shown) 78 = .ok (.i2l, 1) := by decide +kernel
theorem dX10_shown_79 : decode (mc mX10_shown) 79 = .ok (.goto 7, 3) := by decide +kernel
theorem dX10_shown_82 : decode (mc mX10_shown) 82 = .ok (.fload 4, 2) := by decide +kernel
theorem dX10_shown_84 : decode (mc mX10_shown) 84 = .ok (.f2i, 1) := by decide +kernel
theorem dX10_shown_85 : decode (mc mX10_shown) 85 = .ok (.i2l, 1) := by decide +kernel
theorem dX10_shown_86 : decode (mc mX10_shown) 86 = .ok (.lreturn, 1) := by decide +kernel
theorem dX10_price_0 : decode (mc mX10_price) 0 = .ok (.aload_n 0, 1) := by decide +kernel
theorem dX10_price_1 : decode (mc mX10_price) 1 = .ok (.getfield 10, 3) := by decide +kernel
theorem dX10_price_4 : decode (mc mX10_price) 4 = .ok (.iload_n 1, 1) := by decide +kernel
theorem dX10_price_5 : decode (mc mX10_price) 5 = .ok (.invokevirtual 167, 3) := by decide +kernel
theorem dX10_price_8 : decode (mc mX10_price) 8 = .ok (.ifCond .eq 9, 3) := by decide +kernel
theorem dX10_price_11 : decode (mc mX10_price) 11 = .ok (.aload_n 0, 1) := by decide +kernel
theorem dX10_price_12 : decode (mc mX10_price) 12 = .ok (.iconst (-1), 1) := by decide +kernel
theorem dX10_price_13 : decode (mc mX10_price) 13 = .ok (.invokevirtual 92, 3) := by decide +kernel
theorem dX10_price_16 : decode (mc mX10_price) 16 = .ok (.ireturn, 1) := by decide +kernel
theorem dX10_price_17 : decode (mc mX10_price) 17 = .ok (.iload_n 2, 1) := by decide +kernel
theorem dX10_price_18 : decode (mc mX10_price) 18 = .ok (.ifCond .ge 10, 3) := by decide +kernel
theorem dX10_price_21 : decode (mc mX10_price) 21 = .ok (.aload_n 0, 1) := by decide +kernel
theorem dX10_price_22 : decode (mc mX10_price) 22 = .ok (.bipush (-4), 2) := by decide +kernel
theorem dX10_price_24 : decode (mc mX10_price) 24 = .ok (.invokevirtual 92, 3) := by decide +kernel
theorem dX10_price_27 : decode (mc mX10_price) 27 = .ok (.ireturn, 1) := by decide +kernel
theorem dX10_price_28 : decode (mc mX10_price) 28 = .ok (.iload_n 2, 1) := by decide +kernel
theorem dX10_price_29 : decode (mc mX10_price) 29 = .ok (.bipush 99, 2) := by decide +kernel
theorem dX10_price_31 : decode (mc mX10_price) 31 = .ok (.if_icmp .le 10, 3) := by decide +kernel
theorem dX10_price_34 : decode (mc mX10_price) 34 = .ok (.aload_n 0, 1) := by decide +kernel
theorem dX10_price_35 : decode (mc mX10_price) 35 = .ok (.bipush (-6), 2) := by decide +kernel
theorem dX10_price_37 : decode (mc mX10_price) 37 = .ok (.invokevirtual 92, 3) := by decide +kernel
theorem dX10_price_40 : decode (mc mX10_price) 40 = .ok (.ireturn, 1) := by decide +kernel
theorem dX10_price_41 : decode (mc mX10_price) 41 = .ok (.aload_n 0, 1) := by decide +kernel
theorem dX10_price_42 : decode (mc mX10_price) 42 = .ok (.getfield 10, 3) := by decide +kernel
theorem dX10_price_45 : decode (mc mX10_price) 45 = .ok (.getfield 246, 3) := by decide +kernel
theorem dX10_price_48 : decode (mc mX10_price) 48 = .ok (.iload_n 1, 1) := by decide +kernel
theorem dX10_price_49 : decode (mc mX10_price) 49 = .ok (.iaload, 1) := by decide +kernel
theorem dX10_price_50 : decode (mc mX10_price) 50 = .ok (.istore_n 3, 1) := by decide +kernel
theorem dX10_price_51 : decode (mc mX10_price) 51 = .ok (.aload_n 0, 1) := by decide +kernel
theorem dX10_price_52 : decode (mc mX10_price) 52 = .ok (.getfield 10, 3) := by decide +kernel
theorem dX10_price_55 : decode (mc mX10_price) 55 = .ok (.getfield 246, 3) := by decide +kernel
theorem dX10_price_58 : decode (mc mX10_price) 58 = .ok (.iload_n 1, 1) := by decide +kernel
theorem dX10_price_59 : decode (mc mX10_price) 59 = .ok (.iload_n 2, 1) := by decide +kernel
theorem dX10_price_60 : decode (mc mX10_price) 60 = .ok (.iastore, 1) := by decide +kernel
theorem dX10_price_61 : decode (mc mX10_price) 61 = .ok (.iload_n 3, 1) := by decide +kernel
theorem dX10_price_62 : decode (mc mX10_price) 62 = .ok (.ireturn, 1) := by decide +kernel
theorem dX10_step_0 : decode (mc mX10_step) 0 = .ok (.iload_n 1, 1) := by decide +kernel
theorem dX10_step_1 : decode (mc mX10_step) 1 = .ok (.ifCond .ge 10, 3) := by decide +kernel
theorem dX10_step_4 : decode (mc mX10_step) 4 = .ok (.aload_n 0, 1) := by decide +kernel
theorem dX10_step_5 : decode (mc mX10_step) 5 = .ok (.bipush (-4), 2) := by decide +kernel
theorem dX10_step_7 : decode (mc mX10_step) 7 = .ok (.invokevirtual 92, 3) := by decide +kernel
theorem dX10_step_10 : decode (mc mX10_step) 10 = .ok (.ireturn, 1) := by decide +kernel
theorem dX10_step_11 : decode (mc mX10_step) 11 = .ok (.iload_n 1, 1) := by decide +kernel
theorem dX10_step_12 : decode (mc mX10_step) 12 = .ok (.bipush 9, 2) := by decide +kernel
theorem dX10_step_14 : decode (mc mX10_step) 14 = .ok (.if_icmp .le 10, 3) := by decide +kernel
theorem dX10_step_17 : decode (mc mX10_step) 17 = .ok (.aload_n 0, 1) := by decide +kernel
theorem dX10_step_18 : decode (mc mX10_step) 18 = .ok (.bipush (-6), 2) := by decide +kernel
theorem dX10_step_20 : decode (mc mX10_step) 20 = .ok (.invokevirtual 92, 3) := by decide +kernel
theorem dX10_step_23 : decode (mc mX10_step) 23 = .ok (.ireturn, 1) := by decide +kernel
theorem dX10_step_24 : decode (mc mX10_step) 24 = .ok (.aload_n 0, 1) := by decide +kernel
theorem dX10_step_25 : decode (mc mX10_step) 25 = .ok (.getfield 10, 3) := by decide +kernel
theorem dX10_step_28 : decode (mc mX10_step) 28 = .ok (.getfield 249, 3) := by decide +kernel
theorem dX10_step_31 : decode (mc mX10_step) 31 = .ok (.istore_n 2, 1) := by decide +kernel
theorem dX10_step_32 : decode (mc mX10_step) 32 = .ok (.aload_n 0, 1) := by decide +kernel
theorem dX10_step_33 : decode (mc mX10_step) 33 = .ok (.getfield 10, 3) := by decide +kernel
theorem dX10_step_36 : decode (mc mX10_step) 36 = .ok (.iload_n 1, 1) := by decide +kernel
theorem dX10_step_37 : decode (mc mX10_step) 37 = .ok (.putfield 249, 3) := by decide +kernel
theorem dX10_step_40 : decode (mc mX10_step) 40 = .ok (.iload_n 2, 1) := by decide +kernel
theorem dX10_step_41 : decode (mc mX10_step) 41 = .ok (.ireturn, 1) := by decide +kernel
theorem dX10_answer_0 : decode (mc mX10_answer) 0 = .ok (.aload_n 0, 1) := by decide +kernel
theorem dX10_answer_1 : decode (mc mX10_answer) 1 = .ok (.getfield 10, 3) := by decide +kernel
theorem dX10_answer_4 : decode (mc mX10_answer) 4 = .ok (.iload_n 1, 1) := by decide +kernel
theorem dX10_answer_5 : decode (mc mX10_answer) 5 = .ok (.invokevirtual 144, 3) := by decide +kernel
theorem dX10_answer_8 : decode (mc mX10_answer) 8 = .ok (.ifCond .eq 9, 3) := by decide +kernel
theorem dX10_answer_11 : decode (mc mX10_answer) 11 = .ok (.aload_n 0, 1) := by decide +kernel
theorem dX10_answer_12 : decode (mc mX10_answer) 12 = .ok (.iconst (-1), 1) := by decide +kernel
theorem dX10_answer_13 : decode (mc mX10_answer) 13 = .ok (.invokevirtual 219, 3) := by decide +kernel
theorem dX10_answer_16 : decode (mc mX10_answer) 16 = .ok (.lreturn, 1) := by decide +kernel
theorem dX10_answer_17 : decode (mc mX10_answer) 17 = .ok (.iload_n 2, 1) := by decide +kernel
theorem dX10_answer_18 : decode (mc mX10_answer) 18 = .ok (.ifCond .lt 8, 3) := by decide +kernel
theorem dX10_answer_21 : decode (mc mX10_answer) 21 = .ok (.iload_n 2, 1) := by decide +kernel
theorem dX10_answer_22 : decode (mc mX10_answer) 22 = .ok (.iconst 2, 1) := by decide +kernel
theorem dX10_answer_23 : decode (mc mX10_answer) 23 = .ok (.if_icmp .le 10, 3) := by decide +kernel
theorem dX10_answer_26 : decode (mc mX10_answer) 26 = .ok (.aload_n 0, 1) := by decide +kernel
theorem dX10_answer_27 : decode (mc mX10_answer) 27 = .ok (.bipush (-2), 2) := by decide +kernel
theorem dX10_answer_29 : decode (mc mX10_answer) 29 = .ok (.invokevirtual 219, 3) := by decide +kernel
theorem dX10_answer_32 : decode (mc mX10_answer) 32 = .ok (.lreturn, 1) := by decide +kernel
theorem dX10_answer_33 : decode (mc mX10_answer) 33 = .ok (.aload_n 0, 1) := by decide +kernel
theorem dX10_answer_34 : decode (mc mX10_answer) 34 = .ok (.getfield 61, 3) := by decide +kernel
theorem dX10_answer_37 : decode (mc mX10_answer) 37 = .ok (.invokevirtual 252, 3) := by decide +kernel
theorem dX10_answer_40 : decode (mc mX10_answer) 40 = .ok (.aload_n 0, 1) := by decide +kernel
theorem dX10_answer_41 : decode (mc mX10_answer) 41 = .ok (.getfield 61, 3) := by decide +kernel
theorem dX10_answer_44 : decode (mc mX10_answer) 44 = .ok (.invokevirtual 253, 3) := by decide +kernel
theorem dX10_answer_47 : decode (mc mX10_answer) 47 = .ok (.iload_n 2, 1) := by decide +kernel
theorem dX10_answer_48 : decode (mc mX10_answer) 48 = .ok (.ifCond .ne 14, 3) := by decide +kernel
theorem dX10_answer_51 : decode (mc mX10_answer) 51 = .ok (.aload_n 0, 1) := by decide +kernel
theorem dX10_answer_52 : decode (mc mX10_answer) 52 = .ok (.getfield 61, 3) := by decide +kernel
theorem dX10_answer_55 : decode (mc mX10_answer) 55 = .ok (.getfield 256, 3) := by decide +kernel
theorem dX10_answer_58 : decode (mc mX10_answer) 58 = .ok (.iload_n 1, 1) := by decide +kernel
theorem dX10_answer_59 : decode (mc mX10_answer) 59 = .ok (.iaload, 1) := by decide +kernel
theorem dX10_answer_60 : decode (mc mX10_answer) 60 = .ok (.i2l, 1) := by decide +kernel
theorem dX10_answer_61 : decode (mc mX10_answer) 61 = .ok (.lreturn, 1) := by decide +kernel
theorem dX10_answer_62 : decode (mc mX10_answer) 62 = .ok (.iload_n 2, 1) := by decide +kernel
theorem dX10_answer_63 : decode (mc mX10_answer) 63 = .ok (.iconst 1, 1) := by decide +kernel
theorem dX10_answer_64 : decode (mc mX10_answer) 64 = .ok (.if_icmp .ne 16, 3) := by decide +kernel
theorem dX10_answer_67 : decode (mc mX10_answer) 67 = .ok (.aload_n 0, 1) := by decide +kernel
theorem dX10_answer_68 : decode (mc mX10_answer) 68 = .ok (.getfield 61, 3) := by decide +kernel
theorem dX10_answer_71 : decode (mc mX10_answer) 71 = .ok (.getfield 257, 3) := by decide +kernel
theorem dX10_answer_74 : decode (mc mX10_answer) 74 = .ok (.iload_n 1, 1) := by decide +kernel
theorem dX10_answer_75 : decode (mc mX10_answer) 75 = .ok (.iaload, 1) := by decide +kernel
theorem dX10_answer_76 : decode (mc mX10_answer) 76 = .ok (.i2l, 1) := by decide +kernel
theorem dX10_answer_77 : decode (mc mX10_answer) 77 = .ok (.goto 13, 3) := by decide +kernel
theorem dX10_answer_80 : decode (mc mX10_answer) 80 = .ok (.aload_n 0, 1) := by decide +kernel
theorem dX10_answer_81 : decode (mc mX10_answer) 81 = .ok (.getfield 61, 3) := by decide +kernel
theorem dX10_answer_84 : decode (mc mX10_answer) 84 = .ok (.getfield 260, 3) := by decide +kernel
theorem dX10_answer_87 : decode (mc mX10_answer) 87 = .ok (.iload_n 1, 1) := by decide +kernel
theorem dX10_answer_88 : decode (mc mX10_answer) 88 = .ok (.iaload, 1) := by decide +kernel
theorem dX10_answer_89 : decode (mc mX10_answer) 89 = .ok (.i2l, 1) := by decide +kernel
theorem dX10_answer_90 : decode (mc mX10_answer) 90 = .ok (.lreturn, 1) := by decide +kernel
theorem dX10_bound_0 : decode (mc mX10_bound) 0 = .ok (.aload_n 0, 1) := by decide +kernel
theorem dX10_bound_1 : decode (mc mX10_bound) 1 = .ok (.getfield 61, 3) := by decide +kernel
theorem dX10_bound_4 : decode (mc mX10_bound) 4 = .ok (.iconst 0, 1) := by decide +kernel
theorem dX10_bound_5 : decode (mc mX10_bound) 5 = .ok (.invokevirtual 263, 3) := by decide +kernel
theorem dX10_bound_8 : decode (mc mX10_bound) 8 = .ok (.ireturn, 1) := by decide +kernel
theorem dX10_rounds_0 : decode (mc mX10_rounds) 0 = .ok (.iload_n 1, 1) := by decide +kernel
theorem dX10_rounds_1 : decode (mc mX10_rounds) 1 = .ok (.ifCond .ge 10, 3) := by decide +kernel
theorem dX10_rounds_4 : decode (mc mX10_rounds) 4 = .ok (.aload_n 0, 1) := by decide +kernel
theorem dX10_rounds_5 : decode (mc mX10_rounds) 5 = .ok (.bipush (-4), 2) := by decide +kernel
theorem dX10_rounds_7 : decode (mc mX10_rounds) 7 = .ok (.invokevirtual 219, 3) := by decide +kernel
theorem dX10_rounds_10 : decode (mc mX10_rounds) 10 = .ok (.lreturn, 1) := by decide +kernel
theorem dX10_rounds_11 : decode (mc mX10_rounds) 11 = .ok (.iload_n 1, 1) := by decide +kernel
theorem dX10_rounds_12 : decode (mc mX10_rounds) 12 = .ok (.bipush 20, 2) := by decide +kernel
theorem dX10_rounds_14 : decode (mc mX10_rounds) 14 = .ok (.if_icmp .le 10, 3) := by decide +kernel
theorem dX10_rounds_17 : decode (mc mX10_rounds) 17 = .ok (.aload_n 0, 1) := by decide +kernel
theorem dX10_rounds_18 : decode (mc mX10_rounds) 18 = .ok (.bipush (-6), 2) := by decide +kernel
theorem dX10_rounds_20 : decode (mc mX10_rounds) 20 = .ok (.invokevirtual 219, 3) := by decide +kernel
theorem dX10_rounds_23 : decode (mc mX10_rounds) 23 = .ok (.lreturn, 1) := by decide +kernel
theorem dX10_rounds_24 : decode (mc mX10_rounds) 24 = .ok (.iload_n 2, 1) := by decide +kernel
theorem dX10_rounds_25 : decode (mc mX10_rounds) 25 = .ok (.iconst (-1), 1) := by decide +kernel
theorem dX10_rounds_26 : decode (mc mX10_rounds) 26 = .ok (.if_icmp .eq 20, 3) := by decide +kernel
theorem dX10_rounds_29 : decode (mc mX10_rounds) 29 = .ok (.aload_n 0, 1) := by decide +kernel
theorem dX10_rounds_30 : decode (mc mX10_rounds) 30 = .ok (.getfield 10, 3) := by decide +kernel
theorem dX10_rounds_33 : decode (mc mX10_rounds) 33 = .ok (.iload_n 2, 1) := by decide +kernel
theorem dX10_rounds_34 : decode (mc mX10_rounds) 34 = .ok (.invokevirtual 167, 3) := by decide +kernel
theorem dX10_rounds_37 : decode (mc mX10_rounds) 37 = .ok (.ifCond .eq 9, 3) := by decide +kernel
theorem dX10_rounds_40 : decode (mc mX10_rounds) 40 = .ok (.aload_n 0, 1) := by decide +kernel
theorem dX10_rounds_41 : decode (mc mX10_rounds) 41 = .ok (.iconst (-1), 1) := by decide +kernel
theorem dX10_rounds_42 : decode (mc mX10_rounds) 42 = .ok (.invokevirtual 219, 3) := by decide +kernel
theorem dX10_rounds_45 : decode (mc mX10_rounds) 45 = .ok (.lreturn, 1) := by decide +kernel
theorem dX10_rounds_46 : decode (mc mX10_rounds) 46 = .ok (.aload_n 0, 1) := by decide +kernel
theorem dX10_rounds_47 : decode (mc mX10_rounds) 47 = .ok (.getfield 61, 3) := by decide +kernel
theorem dX10_rounds_50 : decode (mc mX10_rounds) 50 = .ok (.iload_n 1, 1) := by decide +kernel
theorem dX10_rounds_51 : decode (mc mX10_rounds) 51 = .ok (.invokevirtual 263, 3) := by decide +kernel
theorem dX10_rounds_54 : decode (mc mX10_rounds) 54 = .ok (.istore_n 3, 1) := by decide +kernel
theorem dX10_rounds_55 : decode (mc mX10_rounds) 55 = .ok (.iload_n 2, 1) := by decide +kernel
theorem dX10_rounds_56 : decode (mc mX10_rounds) 56 = .ok (.iconst (-1), 1) := by decide +kernel
theorem dX10_rounds_57 : decode (mc mX10_rounds) 57 = .ok (.if_icmp .ne 8, 3) := by decide +kernel
theorem dX10_rounds_60 : decode (mc mX10_rounds) 60 = .ok (.iload_n 3, 1) := by decide +kernel
theorem dX10_rounds_61 : decode (mc mX10_rounds) 61 = .ok (.i2l, 1) := by decide +kernel
theorem dX10_rounds_62 : decode (mc mX10_rounds) 62 = .ok (.goto 13, 3) := by decide +kernel
theorem dX10_rounds_65 : decode (mc mX10_rounds) 65 = .ok (.aload_n 0, 1) := by decide +kernel
theorem dX10_rounds_66 : decode (mc mX10_rounds) 66 = .ok (.getfield 61, 3) := by decide +kernel
theorem dX10_rounds_69 : decode (mc mX10_rounds) 69 = .ok (.getfield 266, 3) := by decide +kernel
theorem dX10_rounds_72 : decode (mc mX10_rounds) 72 = .ok (.iload_n 2, 1) := by decide +kernel
theorem dX10_rounds_73 : decode (mc mX10_rounds) 73 = .ok (.iaload, 1) := by decide +kernel
theorem dX10_rounds_74 : decode (mc mX10_rounds) 74 = .ok (.i2l, 1) := by decide +kernel
theorem dX10_rounds_75 : decode (mc mX10_rounds) 75 = .ok (.lreturn, 1) := by decide +kernel
theorem dX10_goes_0 : decode (mc mX10_goes) 0 = .ok (.iload_n 1, 1) := by decide +kernel
theorem dX10_goes_1 : decode (mc mX10_goes) 1 = .ok (.ifCond .ge 10, 3) := by decide +kernel
theorem dX10_goes_4 : decode (mc mX10_goes) 4 = .ok (.aload_n 0, 1) := by decide +kernel
theorem dX10_goes_5 : decode (mc mX10_goes) 5 = .ok (.bipush (-4), 2) := by decide +kernel
theorem dX10_goes_7 : decode (mc mX10_goes) 7 = .ok (.invokevirtual 92, 3) := by decide +kernel
theorem dX10_goes_10 : decode (mc mX10_goes) 10 = .ok (.ireturn, 1) := by decide +kernel
theorem dX10_goes_11 : decode (mc mX10_goes) 11 = .ok (.iload_n 1, 1) := by decide +kernel
theorem dX10_goes_12 : decode (mc mX10_goes) 12 = .ok (.bipush 20, 2) := by decide +kernel
theorem dX10_goes_14 : decode (mc mX10_goes) 14 = .ok (.if_icmp .le 10, 3) := by decide +kernel
theorem dX10_goes_17 : decode (mc mX10_goes) 17 = .ok (.aload_n 0, 1) := by decide +kernel
theorem dX10_goes_18 : decode (mc mX10_goes) 18 = .ok (.bipush (-6), 2) := by decide +kernel
theorem dX10_goes_20 : decode (mc mX10_goes) 20 = .ok (.invokevirtual 92, 3) := by decide +kernel
theorem dX10_goes_23 : decode (mc mX10_goes) 23 = .ok (.ireturn, 1) := by decide +kernel
theorem dX10_goes_24 : decode (mc mX10_goes) 24 = .ok (.aload_n 0, 1) := by decide +kernel
theorem dX10_goes_25 : decode (mc mX10_goes) 25 = .ok (.getfield 61, 3) := by decide +kernel
theorem dX10_goes_28 : decode (mc mX10_goes) 28 = .ok (.iload_n 1, 1) := by decide +kernel
theorem dX10_goes_29 : decode (mc mX10_goes) 29 = .ok (.invokevirtual 263, 3) := by decide +kernel
theorem dX10_goes_32 : decode (mc mX10_goes) 32 = .ok (.pop, 1) := by decide +kernel
theorem dX10_goes_33 : decode (mc mX10_goes) 33 = .ok (.iconst 0, 1) := by decide +kernel
theorem dX10_goes_34 : decode (mc mX10_goes) 34 = .ok (.istore_n 2, 1) := by decide +kernel
theorem dX10_goes_35 : decode (mc mX10_goes) 35 = .ok (.iconst 0, 1) := by decide +kernel
theorem dX10_goes_36 : decode (mc mX10_goes) 36 = .ok (.istore_n 3, 1) := by decide +kernel
theorem dX10_goes_37 : decode (mc mX10_goes) 37 = .ok (.iload_n 3, 1) := by decide +kernel
theorem dX10_goes_38 : decode (mc mX10_goes) 38 = .ok (.aload_n 0, 1) := by decide +kernel
theorem dX10_goes_39 : decode (mc mX10_goes) 39 = .ok (.getfield 10, 3) := by decide +kernel
theorem dX10_goes_42 : decode (mc mX10_goes) 42 = .ok (.getfield 160, 3) := by decide +kernel
theorem dX10_goes_45 : decode (mc mX10_goes) 45 = .ok (.if_icmp .ge 51, 3) := by decide +kernel
theorem dX10_goes_48 : decode (mc mX10_goes) 48 = .ok (.aload_n 0, 1) := by decide +kernel
theorem dX10_goes_49 : decode (mc mX10_goes) 49 = .ok (.getfield 10, 3) := by decide +kernel
theorem dX10_goes_52 : decode (mc mX10_goes) 52 = .ok (.getfield 246, 3) := by decide +kernel
theorem dX10_goes_55 : decode (mc mX10_goes) 55 = .ok (.iload_n 3, 1) := by decide +kernel
theorem dX10_goes_56 : decode (mc mX10_goes) 56 = .ok (.iaload, 1) := by decide +kernel
theorem dX10_goes_57 : decode (mc mX10_goes) 57 = .ok (.aload_n 0, 1) := by decide +kernel
theorem dX10_goes_58 : decode (mc mX10_goes) 58 = .ok (.getfield 61, 3) := by decide +kernel
theorem dX10_goes_61 : decode (mc mX10_goes) 61 = .ok (.getfield 266, 3) := by decide +kernel
theorem dX10_goes_64 : decode (mc mX10_goes) 64 = .ok (.iload_n 3, 1) := by decide +kernel
theorem dX10_goes_65 : decode (mc mX10_goes) 65 = .ok (.iaload, 1) := by decide +kernel
theorem dX10_goes_66 : decode (mc mX10_goes) 66 = .ok (.if_icmp .eq 24, 3) := by decide +kernel
theorem dX10_goes_69 : decode (mc mX10_goes) 69 = .ok (.aload_n 0, 1) := by decide +kernel
theorem dX10_goes_70 : decode (mc mX10_goes) 70 = .ok (.getfield 10, 3) := by decide +kernel
theorem dX10_goes_73 : decode (mc mX10_goes) 73 = .ok (.getfield 246, 3) := by decide +kernel
theorem dX10_goes_76 : decode (mc mX10_goes) 76 = .ok (.iload_n 3, 1) := by decide +kernel
theorem dX10_goes_77 : decode (mc mX10_goes) 77 = .ok (.aload_n 0, 1) := by decide +kernel
theorem dX10_goes_78 : decode (mc mX10_goes) 78 = .ok (.getfield 61, 3) := by decide +kernel
theorem dX10_goes_81 : decode (mc mX10_goes) 81 = .ok (.getfield 266, 3) := by decide +kernel
theorem dX10_goes_84 : decode (mc mX10_goes) 84 = .ok (.iload_n 3, 1) := by decide +kernel
theorem dX10_goes_85 : decode (mc mX10_goes) 85 = .ok (.iaload, 1) := by decide +kernel
theorem dX10_goes_86 : decode (mc mX10_goes) 86 = .ok (.iastore, 1) := by decide +kernel
theorem dX10_goes_87 : decode (mc mX10_goes) 87 = .ok (.iinc 2 1, 3) := by decide +kernel
theorem dX10_goes_90 : decode (mc mX10_goes) 90 = .ok (.iinc 3 1, 3) := by decide +kernel
theorem dX10_goes_93 : decode (mc mX10_goes) 93 = .ok (.goto (-56), 3) := by decide +kernel
theorem dX10_goes_96 : decode (mc mX10_goes) 96 = .ok (.iload_n 2, 1) := by decide +kernel
theorem dX10_goes_97 : decode (mc mX10_goes) 97 = .ok (.ireturn, 1) := by decide +kernel
theorem dX10_repaired_0 : decode (mc mX10_repaired) 0 = .ok (.iload_n 1, 1) := by decide +kernel
theorem dX10_repaired_1 : decode (mc mX10_repaired) 1 = .ok (.iconst (-1), 1) := by decide +kernel
theorem dX10_repaired_2 : decode (mc mX10_repaired) 2 = .ok (.if_icmp .eq 20, 3) := by decide +kernel
theorem dX10_repaired_5 : decode (mc mX10_repaired) 5 = .ok (.aload_n 0, 1) := by decide +kernel
theorem dX10_repaired_6 : decode (mc mX10_repaired) 6 = .ok (.getfield 10, 3) := by decide +kernel
theorem dX10_repaired_9 : decode (mc mX10_repaired) 9 = .ok (.iload_n 1, 1) := by decide +kernel
theorem dX10_repaired_10 : decode (mc mX10_repaired) 10 = .ok (.invokevirtual 144, 3) := by decide +kernel
theorem dX10_repaired_13 : decode (mc mX10_repaired) 13 = .ok (.ifCond .eq 9, 3) := by decide +kernel
theorem dX10_repaired_16 : decode (mc mX10_repaired) 16 = .ok (.aload_n 0, 1) := by decide +kernel
theorem dX10_repaired_17 : decode (mc mX10_repaired) 17 = .ok (.iconst (-1), 1) := by decide +kernel
theorem dX10_repaired_18 : decode (mc mX10_repaired) 18 = .ok (.invokevirtual 92, 3) := by decide +kernel
theorem dX10_repaired_21 : decode (mc mX10_repaired) 21 = .ok (.ireturn, 1) := by decide +kernel
theorem dX10_repaired_22 : decode (mc mX10_repaired) 22 = .ok (.aload_n 0, 1) := by decide +kernel
theorem dX10_repaired_23 : decode (mc mX10_repaired) 23 = .ok (.getfield 61, 3) := by decide +kernel
theorem dX10_repaired_26 : decode (mc mX10_repaired) 26 = .ok (.invokevirtual 252, 3) := by decide +kernel
theorem dX10_repaired_29 : decode (mc mX10_repaired) 29 = .ok (.aload_n 0, 1) := by decide +kernel
theorem dX10_repaired_30 : decode (mc mX10_repaired) 30 = .ok (.getfield 61, 3) := by decide +kernel
theorem dX10_repaired_33 : decode (mc mX10_repaired) 33 = .ok (.invokevirtual 253, 3) := by decide +kernel
theorem dX10_repaired_36 : decode (mc mX10_repaired) 36 = .ok (.aload_n 0, 1) := by decide +kernel
theorem dX10_repaired_37 : decode (mc mX10_repaired) 37 = .ok (.getfield 70, 3) := by decide +kernel
theorem dX10_repaired_40 : decode (mc mX10_repaired) 40 = .ok (.invokevirtual 269, 3) := by decide +kernel
theorem dX10_repaired_43 : decode (mc mX10_repaired) 43 = .ok (.istore_n 2, 1) := by decide +kernel
theorem dX10_repaired_44 : decode (mc mX10_repaired) 44 = .ok (.iload_n 2, 1) := by decide +kernel
theorem dX10_repaired_45 : decode (mc mX10_repaired) 45 = .ok (.ifCond .lt 8, 3) := by decide +kernel
theorem dX10_repaired_48 : decode (mc mX10_repaired) 48 = .ok (.iload_n 1, 1) := by decide +kernel
theorem dX10_repaired_49 : decode (mc mX10_repaired) 49 = .ok (.iconst (-1), 1) := by decide +kernel
theorem dX10_repaired_50 : decode (mc mX10_repaired) 50 = .ok (.if_icmp .ne 7, 3) := by decide +kernel
theorem dX10_repaired_53 : decode (mc mX10_repaired) 53 = .ok (.iload_n 2, 1) := by decide +kernel
theorem dX10_repaired_54 : decode (mc mX10_repaired) 54 = .ok (.goto 12, 3) := by decide +kernel
theorem dX10_repaired_57 : decode (mc mX10_repaired) 57 = .ok (.aload_n 0, 1) := by decide +kernel
theorem dX10_repaired_58 : decode (mc mX10_repaired) 58 = .ok (.getfield 70, 3) := by decide +kernel
theorem dX10_repaired_61 : decode (mc mX10_repaired) 61 = .ok (.getfield 271, 3) := by decide +kernel
theorem dX10_repaired_64 : decode (mc mX10_repaired) 64 = .ok (.iload_n 1, 1) := by decide +kernel
theorem dX10_repaired_65 : decode (mc mX10_repaired) 65 = .ok (.iaload, 1) := by decide +kernel
theorem dX10_repaired_66 : decode (mc mX10_repaired) 66 = .ok (.ireturn, 1) := by decide +kernel
theorem dX10_judge_0 : decode (mc mX10_judge) 0 = .ok (.iload_n 1, 1) := by decide +kernel
theorem dX10_judge_1 : decode (mc mX10_judge) 1 = .ok (.invokestatic 272, 3) := by decide +kernel
theorem dX10_judge_4 : decode (mc mX10_judge) 4 = .ok (.ifCond .eq 9, 3) := by decide +kernel
theorem dX10_judge_7 : decode (mc mX10_judge) 7 = .ok (.aload_n 0, 1) := by decide +kernel
theorem dX10_judge_8 : decode (mc mX10_judge) 8 = .ok (.iconst (-1), 1) := by decide +kernel
theorem dX10_judge_9 : decode (mc mX10_judge) 9 = .ok (.invokevirtual 92, 3) := by decide +kernel
theorem dX10_judge_12 : decode (mc mX10_judge) 12 = .ok (.ireturn, 1) := by decide +kernel
theorem dX10_judge_13 : decode (mc mX10_judge) 13 = .ok (.aload_n 0, 1) := by decide +kernel
theorem dX10_judge_14 : decode (mc mX10_judge) 14 = .ok (.getfield 76, 3) := by decide +kernel
theorem dX10_judge_17 : decode (mc mX10_judge) 17 = .ok (.iload_n 1, 1) := by decide +kernel
theorem dX10_judge_18 : decode (mc mX10_judge) 18 = .ok (.aaload, 1) := by decide +kernel
theorem dX10_judge_19 : decode (mc mX10_judge) 19 = .ok (.astore_n 2, 1) := by decide +kernel
theorem dX10_judge_20 : decode (mc mX10_judge) 20 = .ok (.aload_n 2, 1) := by decide +kernel
theorem dX10_judge_21 : decode (mc mX10_judge) 21 = .ok (.getfield 275, 3) := by decide +kernel
theorem dX10_judge_24 : decode (mc mX10_judge) 24 = .ok (.ifCond .ge 6, 3) := by decide +kernel
theorem dX10_judge_27 : decode (mc mX10_judge) 27 = .ok (.bipush (-11), 2) := by decide +kernel
theorem dX10_judge_29 : decode (mc mX10_judge) 29 = .ok (.ireturn, 1) := by decide +kernel
theorem dX10_judge_30 : decode (mc mX10_judge) 30 = .ok (.aload_n 2, 1) := by decide +kernel
theorem dX10_judge_31 : decode (mc mX10_judge) 31 = .ok (.getfield 275, 3) := by decide +kernel
theorem dX10_judge_34 : decode (mc mX10_judge) 34 = .ok (.aload_n 0, 1) := by decide +kernel
theorem dX10_judge_35 : decode (mc mX10_judge) 35 = .ok (.getfield 10, 3) := by decide +kernel
theorem dX10_judge_38 : decode (mc mX10_judge) 38 = .ok (.getfield 223, 3) := by decide +kernel
theorem dX10_judge_41 : decode (mc mX10_judge) 41 = .ok (.if_icmp .ge 11, 3) := by decide +kernel
theorem dX10_judge_44 : decode (mc mX10_judge) 44 = .ok (.bipush 100, 2) := by decide +kernel
theorem dX10_judge_46 : decode (mc mX10_judge) 46 = .ok (.aload_n 2, 1) := by decide +kernel
theorem dX10_judge_47 : decode (mc mX10_judge) 47 = .ok (.getfield 275, 3) := by decide +kernel
theorem dX10_judge_50 : decode (mc mX10_judge) 50 = .ok (.iadd, 1) := by decide +kernel
theorem dX10_judge_51 : decode (mc mX10_judge) 51 = .ok (.ireturn, 1) := by decide +kernel
theorem dX10_judge_52 : decode (mc mX10_judge) 52 = .ok (.aload_n 0, 1) := by decide +kernel
theorem dX10_judge_53 : decode (mc mX10_judge) 53 = .ok (.getfield 45, 3) := by decide +kernel
theorem dX10_judge_56 : decode (mc mX10_judge) 56 = .ok (.invokevirtual 194, 3) := by decide +kernel
theorem dX10_judge_59 : decode (mc mX10_judge) 59 = .ok (.iconst 0, 1) := by decide +kernel
theorem dX10_judge_60 : decode (mc mX10_judge) 60 = .ok (.istore_n 3, 1) := by decide +kernel
theorem dX10_judge_61 : decode (mc mX10_judge) 61 = .ok (.iload_n 3, 1) := by decide +kernel
theorem dX10_judge_62 : decode (mc mX10_judge) 62 = .ok (.aload_n 0, 1) := by decide +kernel
theorem dX10_judge_63 : decode (mc mX10_judge) 63 = .ok (.getfield 10, 3) := by decide +kernel
theorem dX10_judge_66 : decode (mc mX10_judge) 66 = .ok (.getfield 160, 3) := by decide +kernel
theorem dX10_judge_69 : decode (mc mX10_judge) 69 = .ok (.if_icmp .ge 34, 3) := by decide +kernel
theorem dX10_judge_72 : decode (mc mX10_judge) 72 = .ok (.aload_n 0, 1) := by decide +kernel
theorem dX10_judge_73 : decode (mc mX10_judge) 73 = .ok (.getfield 45, 3) := by decide +kernel
theorem dX10_judge_76 : decode (mc mX10_judge) 76 = .ok (.iload_n 3, 1) := by decide +kernel
theorem dX10_judge_77 : decode (mc mX10_judge) 77 = .ok (.aload_n 2, 1) := by decide +kernel
theorem dX10_judge_78 : decode (mc mX10_judge) 78 = .ok (.iload_n 3, 1) := by decide +kernel
theorem dX10_judge_79 : decode (mc mX10_judge) 79 = .ok (.aload_n 0, 1) := by decide +kernel
theorem dX10_judge_80 : decode (mc mX10_judge) 80 = .ok (.getfield 10, 3) := by decide +kernel
theorem dX10_judge_83 : decode (mc mX10_judge) 83 = .ok (.getfield 223, 3) := by decide +kernel
theorem dX10_judge_86 : decode (mc mX10_judge) 86 = .ok (.invokevirtual 278, 3) := by decide +kernel
theorem dX10_judge_89 : decode (mc mX10_judge) 89 = .ok (.invokevirtual 200, 3) := by decide +kernel
theorem dX10_judge_92 : decode (mc mX10_judge) 92 = .ok (.ifCond .ge 5, 3) := by decide +kernel
theorem dX10_judge_95 : decode (mc mX10_judge) 95 = .ok (.iload_n 3, 1) := by decide +kernel
theorem dX10_judge_96 : decode (mc mX10_judge) 96 = .ok (.ireturn, 1) := by decide +kernel
theorem dX10_judge_97 : decode (mc mX10_judge) 97 = .ok (.iinc 3 1, 3) := by decide +kernel
theorem dX10_judge_100 : decode (mc mX10_judge) 100 = .ok (.goto (-39), 3) := by decide +kernel
theorem dX10_judge_103 : decode (mc mX10_judge) 103 = .ok (.bipush (-9), 2) := by decide +kernel
theorem dX10_judge_105 : decode (mc mX10_judge) 105 = .ok (.ireturn, 1) := by decide +kernel
theorem dX10_whatIs_0 : decode (mc mX10_whatIs) 0 = .ok (.iload_n 1, 1) := by decide +kernel
theorem dX10_whatIs_1 : decode (mc mX10_whatIs) 1 = .ok (.invokestatic 272, 3) := by decide +kernel
theorem dX10_whatIs_4 : decode (mc mX10_whatIs) 4 = .ok (.ifCond .ne 14, 3) := by decide +kernel
theorem dX10_whatIs_7 : decode (mc mX10_whatIs) 7 = .ok (.aload_n 0, 1) := by decide +kernel
theorem dX10_whatIs_8 : decode (mc mX10_whatIs) 8 = .ok (.getfield 10, 3) := by decide +kernel
theorem dX10_whatIs_11 : decode (mc mX10_whatIs) 11 = .ok (.iload_n 2, 1) := by decide +kernel
theorem dX10_whatIs_12 : decode (mc mX10_whatIs) 12 = .ok (.invokevirtual 144, 3) := by decide +kernel
theorem dX10_whatIs_15 : decode (mc mX10_whatIs) 15 = .ok (.ifCond .eq 9, 3) := by decide +kernel
theorem dX10_whatIs_18 : decode (mc mX10_whatIs) 18 = .ok (.aload_n 0, 1) := by decide +kernel
theorem dX10_whatIs_19 : decode (mc mX10_whatIs) 19 = .ok (.iconst (-1), 1) := by decide +kernel
theorem dX10_whatIs_20 : decode (mc mX10_whatIs) 20 = .ok (.invokevirtual 92, 3) := by decide +kernel
theorem dX10_whatIs_23 : decode (mc mX10_whatIs) 23 = .ok (.ireturn, 1) := by decide +kernel
theorem dX10_whatIs_24 : decode (mc mX10_whatIs) 24 = .ok (.iload_n 3, 1) := by decide +kernel
theorem dX10_whatIs_25 : decode (mc mX10_whatIs) 25 = .ok (.ifCond .lt 8, 3) := by decide +kernel
theorem dX10_whatIs_28 : decode (mc mX10_whatIs) 28 = .ok (.iload_n 3, 1) := by decide +kernel
theorem dX10_whatIs_29 : decode (mc mX10_whatIs) 29 = .ok (.iconst 1, 1) := by decide +kernel
theorem dX10_whatIs_30 : decode (mc mX10_whatIs) 30 = .ok (.if_icmp .le 10, 3) := by decide +kernel
theorem dX10_whatIs_33 : decode (mc mX10_whatIs) 33 = .ok (.aload_n 0, 1) := by decide +kernel
theorem dX10_whatIs_34 : decode (mc mX10_whatIs) 34 = .ok (.bipush (-2), 2) := by decide +kernel
theorem dX10_whatIs_36 : decode (mc mX10_whatIs) 36 = .ok (.invokevirtual 92, 3) := by decide +kernel
theorem dX10_whatIs_39 : decode (mc mX10_whatIs) 39 = .ok (.ireturn, 1) := by decide +kernel
theorem dX10_whatIs_40 : decode (mc mX10_whatIs) 40 = .ok (.aload_n 0, 1) := by decide +kernel
theorem dX10_whatIs_41 : decode (mc mX10_whatIs) 41 = .ok (.getfield 76, 3) := by decide +kernel
theorem dX10_whatIs_44 : decode (mc mX10_whatIs) 44 = .ok (.iload_n 1, 1) := by decide +kernel
theorem dX10_whatIs_45 : decode (mc mX10_whatIs) 45 = .ok (.aaload, 1) := by decide +kernel
theorem dX10_whatIs_46 : decode (mc mX10_whatIs) 46 = .ok (.astore 4, 2) := by decide +kernel
theorem dX10_whatIs_48 : decode (mc mX10_whatIs) 48 = .ok (.aload 4, 2) := by decide +kernel
theorem dX10_whatIs_50 : decode (mc mX10_whatIs) 50 = .ok (.getfield 275, 3) := by decide +kernel
theorem dX10_whatIs_53 : decode (mc mX10_whatIs) 53 = .ok (.ifCond .ge 6, 3) := by decide +kernel
theorem dX10_whatIs_56 : decode (mc mX10_whatIs) 56 = .ok (.bipush (-11), 2) := by decide +kernel
theorem dX10_whatIs_58 : decode (mc mX10_whatIs) 58 = .ok (.ireturn, 1) := by decide +kernel
theorem dX10_whatIs_59 : decode (mc mX10_whatIs) 59 = .ok (.aload_n 0, 1) := by decide +kernel
theorem dX10_whatIs_60 : decode (mc mX10_whatIs) 60 = .ok (.getfield 10, 3) := by decide +kernel
theorem dX10_whatIs_63 : decode (mc mX10_whatIs) 63 = .ok (.getfield 148, 3) := by decide +kernel
theorem dX10_whatIs_66 : decode (mc mX10_whatIs) 66 = .ok (.iload_n 2, 1) := by decide +kernel
theorem dX10_whatIs_67 : decode (mc mX10_whatIs) 67 = .ok (.aaload, 1) := by decide +kernel
theorem dX10_whatIs_68 : decode (mc mX10_whatIs) 68 = .ok (.astore 5, 2) := by decide +kernel
theorem dX10_whatIs_70 : decode (mc mX10_whatIs) 70 = .ok (.iconst 0, 1) := by decide +kernel
theorem dX10_whatIs_71 : decode (mc mX10_whatIs) 71 = .ok (.istore 6, 2) := by decide +kernel
theorem dX10_whatIs_73 : decode (mc mX10_whatIs) 73 = .ok (.iconst 0, 1) := by decide +kernel
theorem dX10_whatIs_74 : decode (mc mX10_whatIs) 74 = .ok (.istore 7, 2) := by decide +kernel
theorem dX10_whatIs_76 : decode (mc mX10_whatIs) 76 = .ok (.iload 7, 2) := by decide +kernel
theorem dX10_whatIs_78 : decode (mc mX10_whatIs) 78 = .ok (.iload_n 3, 1) := by decide +kernel
theorem dX10_whatIs_79 : decode (mc mX10_whatIs) 79 = .ok (.ifCond .ne 8, 3) := by decide +kernel
theorem dX10_whatIs_82 : decode (mc mX10_whatIs) 82 = .ok (.bipush 6, 2) := by decide +kernel
theorem dX10_whatIs_84 : decode (mc mX10_whatIs) 84 = .ok (.goto 5, 3) := by decide +kernel
theorem dX10_whatIs_87 : decode (mc mX10_whatIs) 87 = .ok (.bipush 10, 2) := by decide +kernel
theorem dX10_whatIs_89 : decode (mc mX10_whatIs) 89 = .ok (.if_icmp .ge 67, 3) := by decide +kernel
theorem dX10_whatIs_92 : decode (mc mX10_whatIs) 92 = .ok (.iload_n 3, 1) := by decide +kernel
theorem dX10_whatIs_93 : decode (mc mX10_whatIs) 93 = .ok (.ifCond .ne 8, 3) := by decide +kernel
theorem dX10_whatIs_96 : decode (mc mX10_whatIs) 96 = .ok (.iload 7, 2) := by decide +kernel
theorem dX10_whatIs_98 : decode (mc mX10_whatIs) 98 = .ok (.goto 8, 3) := by decide +kernel
theorem dX10_whatIs_101 : decode (mc mX10_whatIs) 101 = .ok (.aload 5, 2) := by decide +kernel
theorem dX10_whatIs_103 : decode (mc mX10_whatIs) 103 = .ok (.getfield 280, 3) := by decide +kernel
theorem dX10_whatIs_106 : decode (mc mX10_whatIs) 106 = .ok (.istore 8, 2) := by decide +kernel
theorem dX10_whatIs_108 : decode (mc mX10_whatIs) 108 = .ok (.iload_n 3, 1) := by decide +kernel
theorem dX10_whatIs_109 : decode (mc mX10_whatIs) 109 = .ok (.ifCond .ne 11, 3) := by decide +kernel
theorem dX10_whatIs_112 : decode (mc mX10_whatIs) 112 = .ok (.aload 5, 2) := by decide +kernel
theorem dX10_whatIs_114 : decode (mc mX10_whatIs) 114 = .ok (.getfield 283, 3) := by decide +kernel
theorem dX10_whatIs_117 : decode (mc mX10_whatIs) 117 = .ok (.goto 5, 3) := by decide +kernel
theorem dX10_whatIs_120 : decode (mc mX10_whatIs) 120 = .ok (.iload 7, 2) := by decide +kernel
theorem dX10_whatIs_122 : decode (mc mX10_whatIs) 122 = .ok (.istore 9, 2) := by decide +kernel
theorem dX10_whatIs_124 : decode (mc mX10_whatIs) 124 = .ok (.aload 4, 2) := by decide +kernel
theorem dX10_whatIs_126 : decode (mc mX10_whatIs) 126 = .ok (.iload 8, 2) := by decide +kernel
theorem dX10_whatIs_128 : decode (mc mX10_whatIs) 128 = .ok (.iload 9, 2) := by decide +kernel
theorem dX10_whatIs_130 : decode (mc mX10_whatIs) 130 = .ok (.aload 5, 2) := by decide +kernel
theorem dX10_whatIs_132 : decode (mc mX10_whatIs) 132 = .ok (.getfield 286, 3) := by decide +kernel
theorem dX10_whatIs_135 : decode (mc mX10_whatIs) 135 = .ok (.invokevirtual 289, 3) := by decide +kernel
theorem dX10_whatIs_138 : decode (mc mX10_whatIs) 138 = .ok (.ifCond .eq 12, 3) := by decide +kernel
theorem dX10_whatIs_141 : decode (mc mX10_whatIs) 141 = .ok (.iload 6, 2) := by decide +kernel
theorem dX10_whatIs_143 : decode (mc mX10_whatIs) 143 = .ok (.iconst 1, 1) := by decide +kernel
theorem dX10_whatIs_144 : decode (mc mX10_whatIs) 144 = .ok (.iload 7, 2) := by decide +kernel
theorem dX10_whatIs_146 : decode (mc mX10_whatIs) 146 = .ok (.ishl, 1) := by decide +kernel
theorem dX10_whatIs_147 : decode (mc mX10_whatIs) 147 = .ok (.ior, 1) := by decide +kernel
theorem dX10_whatIs_148 : decode (mc mX10_whatIs) 148 = .ok (.istore 6, 2) := by decide +kernel
theorem dX10_whatIs_150 : decode (mc mX10_whatIs) 150 = .ok (.iinc 7 1, 3) := by decide +kernel
theorem dX10_whatIs_153 : decode (mc mX10_whatIs) 153 = .ok (.goto (-77), 3) := by decide +kernel
theorem dX10_whatIs_156 : decode (mc mX10_whatIs) 156 = .ok (.iload 6, 2) := by decide +kernel
theorem dX10_whatIs_158 : decode (mc mX10_whatIs) 158 = .ok (.ireturn, 1) := by decide +kernel
theorem dX10_lots_0 : decode (mc mX10_lots) 0 = .ok (.iload_n 1, 1) := by decide +kernel
theorem dX10_lots_1 : decode (mc mX10_lots) 1 = .ok (.iconst 1, 1) := by decide +kernel
theorem dX10_lots_2 : decode (mc mX10_lots) 2 = .ok (.if_icmp .ge 10, 3) := by decide +kernel
theorem dX10_lots_5 : decode (mc mX10_lots) 5 = .ok (.aload_n 0, 1) := by decide +kernel
theorem dX10_lots_6 : decode (mc mX10_lots) 6 = .ok (.bipush (-4), 2) := by decide +kernel
theorem dX10_lots_8 : decode (mc mX10_lots) 8 = .ok (.invokevirtual 92, 3) := by decide +kernel
theorem dX10_lots_11 : decode (mc mX10_lots) 11 = .ok (.ireturn, 1) := by decide +kernel
theorem dX10_lots_12 : decode (mc mX10_lots) 12 = .ok (.iload_n 1, 1) := by decide +kernel
theorem dX10_lots_13 : decode (mc mX10_lots) 13 = .ok (.bipush 20, 2) := by decide +kernel
theorem dX10_lots_15 : decode (mc mX10_lots) 15 = .ok (.if_icmp .le 10, 3) := by decide +kernel
theorem dX10_lots_18 : decode (mc mX10_lots) 18 = .ok (.aload_n 0, 1) := by decide +kernel
theorem dX10_lots_19 : decode (mc mX10_lots) 19 = .ok (.bipush (-6), 2) := by decide +kernel
theorem dX10_lots_21 : decode (mc mX10_lots) 21 = .ok (.invokevirtual 92, 3) := by decide +kernel
theorem dX10_lots_24 : decode (mc mX10_lots) 24 = .ok (.ireturn, 1) := by decide +kernel
theorem dX10_lots_25 : decode (mc mX10_lots) 25 = .ok (.iload_n 3, 1) := by decide +kernel
theorem dX10_lots_26 : decode (mc mX10_lots) 26 = .ok (.ifCond .lt 8, 3) := by decide +kernel
theorem dX10_lots_29 : decode (mc mX10_lots) 29 = .ok (.iload_n 3, 1) := by decide +kernel
theorem dX10_lots_30 : decode (mc mX10_lots) 30 = .ok (.iconst 1, 1) := by decide +kernel
theorem dX10_lots_31 : decode (mc mX10_lots) 31 = .ok (.if_icmp .le 10, 3) := by decide +kernel
theorem dX10_lots_34 : decode (mc mX10_lots) 34 = .ok (.aload_n 0, 1) := by decide +kernel
theorem dX10_lots_35 : decode (mc mX10_lots) 35 = .ok (.bipush (-2), 2) := by decide +kernel
theorem dX10_lots_37 : decode (mc mX10_lots) 37 = .ok (.invokevirtual 92, 3) := by decide +kernel
theorem dX10_lots_40 : decode (mc mX10_lots) 40 = .ok (.ireturn, 1) := by decide +kernel
theorem dX10_lots_41 : decode (mc mX10_lots) 41 = .ok (.iload_n 2, 1) := by decide +kernel
theorem dX10_lots_42 : decode (mc mX10_lots) 42 = .ok (.istore 4, 2) := by decide +kernel
theorem dX10_lots_44 : decode (mc mX10_lots) 44 = .ok (.iconst 0, 1) := by decide +kernel
theorem dX10_lots_45 : decode (mc mX10_lots) 45 = .ok (.istore 5, 2) := by decide +kernel
theorem dX10_lots_47 : decode (mc mX10_lots) 47 = .ok (.iconst 0, 1) := by decide +kernel
theorem dX10_lots_48 : decode (mc mX10_lots) 48 = .ok (.istore 6, 2) := by decide +kernel
theorem dX10_lots_50 : decode (mc mX10_lots) 50 = .ok (.iconst 0, 1) := by decide +kernel
theorem dX10_lots_51 : decode (mc mX10_lots) 51 = .ok (.istore 7, 2) := by decide +kernel
theorem dX10_lots_53 : decode (mc mX10_lots) 53 = .ok (.iload 7, 2) := by decide +kernel
theorem dX10_lots_55 : decode (mc mX10_lots) 55 = .ok (.iload_n 1, 1) := by decide +kernel
theorem dX10_lots_56 : decode (mc mX10_lots) 56 = .ok (.if_icmp .ge 96, 3) := by decide +kernel
theorem dX10_lots_59 : decode (mc mX10_lots) 59 = .ok (.aload_n 0, 1) := by decide +kernel
theorem dX10_lots_60 : decode (mc mX10_lots) 60 = .ok (.getfield 52, 3) := by decide +kernel
theorem dX10_lots_63 : decode (mc mX10_lots) 63 = .ok (.invokevirtual 203, 3) := by decide +kernel
theorem dX10_lots_66 : decode (mc mX10_lots) 66 = .ok (.iconst 0, 1) := by decide +kernel
theorem dX10_lots_67 : decode (mc mX10_lots) 67 = .ok (.istore 8, 2) := by decide +kernel
theorem dX10_lots_69 : decode (mc mX10_lots) 69 = .ok (.iload 8, 2) := by decide +kernel
theorem dX10_lots_71 : decode (mc mX10_lots) 71 = .ok (.aload_n 0, 1) := by decide +kernel
theorem dX10_lots_72 : decode (mc mX10_lots) 72 = .ok (.getfield 10, 3) := by decide +kernel
theorem dX10_lots_75 : decode (mc mX10_lots) 75 = .ok (.getfield 160, 3) := by decide +kernel
theorem dX10_lots_78 : decode (mc mX10_lots) 78 = .ok (.if_icmp .ge 44, 3) := by decide +kernel
theorem dX10_lots_81 : decode (mc mX10_lots) 81 = .ok (.iload 4, 2) := by decide +kernel
theorem dX10_lots_83 : decode (mc mX10_lots) 83 = .ok (.ldc_w 293, 3) := by decide +kernel
theorem dX10_lots_86 : decode (mc mX10_lots) 86 = .ok (.imul, 1) := by decide +kernel
theorem dX10_lots_87 : decode (mc mX10_lots) 87 = .ok (.ldc_w 294, 3) := by decide +kernel
theorem dX10_lots_90 : decode (mc mX10_lots) 90 = .ok (.iadd, 1) := by decide +kernel
theorem dX10_lots_91 : decode (mc mX10_lots) 91 = .ok (.istore 4, 2) := by decide +kernel
theorem dX10_lots_93 : decode (mc mX10_lots) 93 = .ok (.aload_n 0, 1) := by decide +kernel
theorem dX10_lots_94 : decode (mc mX10_lots) 94 = .ok (.getfield 52, 3) := by decide +kernel
theorem dX10_lots_97 : decode (mc mX10_lots) 97 = .ok (.getfield 206, 3) := by decide +kernel
theorem dX10_lots_100 : decode (mc mX10_lots) 100 = .ok (.iload 8, 2) := by decide +kernel
theorem dX10_lots_102 : decode (mc mX10_lots) 102 = .ok (.iload 4, 2) := by decide +kernel
theorem dX10_lots_104 : decode (mc mX10_lots) 104 = .ok (.ldc_w 295, 3) := by decide +kernel
theorem dX10_lots_107 : decode (mc mX10_lots) 107 = .ok (.iand, 1) := by decide +kernel
theorem dX10_lots_108 : decode (mc mX10_lots) 108 = .ok (.sipush 256, 3) := by decide +kernel
theorem dX10_lots_111 : decode (mc mX10_lots) 111 = .ok (.idiv, 1) := by decide +kernel
theorem dX10_lots_112 : decode (mc mX10_lots) 112 = .ok (.bipush 100, 2) := by decide +kernel
theorem dX10_lots_114 : decode (mc mX10_lots) 114 = .ok (.irem, 1) := by decide +kernel
theorem dX10_lots_115 : decode (mc mX10_lots) 115 = .ok (.iastore, 1) := by decide +kernel
theorem dX10_lots_116 : decode (mc mX10_lots) 116 = .ok (.iinc 8 1, 3) := by decide +kernel
theorem dX10_lots_119 : decode (mc mX10_lots) 119 = .ok (.goto (-50), 3) := by decide +kernel
theorem dX10_lots_122 : decode (mc mX10_lots) 122 = .ok (.aload_n 0, 1) := by decide +kernel
theorem dX10_lots_123 : decode (mc mX10_lots) 123 = .ok (.getfield 52, 3) := by decide +kernel
theorem dX10_lots_126 : decode (mc mX10_lots) 126 = .ok (.invokevirtual 207, 3) := by decide +kernel
theorem dX10_lots_129 : decode (mc mX10_lots) 129 = .ok (.istore 8, 2) := by decide +kernel
theorem dX10_lots_131 : decode (mc mX10_lots) 131 = .ok (.iload 8, 2) := by decide +kernel
theorem dX10_lots_133 : decode (mc mX10_lots) 133 = .ok (.ifCond .lt 13, 3) := by decide +kernel
theorem dX10_lots_136 : decode (mc mX10_lots) 136 = .ok (.iinc 5 1, 3) := by decide +kernel
theorem dX10_lots_139 : decode (mc mX10_lots) 139 = .ok (.iload 6, 2) := by decide +kernel
theorem dX10_lots_141 : decode (mc mX10_lots) 141 = .ok (.iload 8, 2) := by decide +kernel
theorem dX10_lots_143 : decode (mc mX10_lots) 143 = .ok (.iadd, 1) := by decide +kernel
theorem dX10_lots_144 : decode (mc mX10_lots) 144 = .ok (.istore 6, 2) := by decide +kernel
theorem dX10_lots_146 : decode (mc mX10_lots) 146 = .ok (.iinc 7 1, 3) := by decide +kernel
theorem dX10_lots_149 : decode (mc mX10_lots) 149 = .ok (.goto (-96), 3) := by decide +kernel
theorem dX10_lots_152 : decode (mc mX10_lots) 152 = .ok (.iload_n 3, 1) := by decide +kernel
theorem dX10_lots_153 : decode (mc mX10_lots) 153 = .ok (.ifCond .ne 8, 3) := by decide +kernel
theorem dX10_lots_156 : decode (mc mX10_lots) 156 = .ok (.iload 5, 2) := by decide +kernel
theorem dX10_lots_158 : decode (mc mX10_lots) 158 = .ok (.goto 5, 3) := by decide +kernel
theorem dX10_lots_161 : decode (mc mX10_lots) 161 = .ok (.iload 6, 2) := by decide +kernel
theorem dX10_lots_163 : decode (mc mX10_lots) 163 = .ok (.ireturn, 1) := by decide +kernel
theorem dX10_list_0 : decode (mc mX10_list) 0 = .ok (.iload_n 1, 1) := by decide +kernel
theorem dX10_list_1 : decode (mc mX10_list) 1 = .ok (.invokestatic 272, 3) := by decide +kernel
theorem dX10_list_4 : decode (mc mX10_list) 4 = .ok (.ifCond .eq 9, 3) := by decide +kernel
theorem dX10_list_7 : decode (mc mX10_list) 7 = .ok (.aload_n 0, 1) := by decide +kernel
theorem dX10_list_8 : decode (mc mX10_list) 8 = .ok (.iconst (-1), 1) := by decide +kernel
theorem dX10_list_9 : decode (mc mX10_list) 9 = .ok (.invokevirtual 92, 3) := by decide +kernel
theorem dX10_list_12 : decode (mc mX10_list) 12 = .ok (.ireturn, 1) := by decide +kernel
theorem dX10_list_13 : decode (mc mX10_list) 13 = .ok (.iload_n 2, 1) := by decide +kernel
theorem dX10_list_14 : decode (mc mX10_list) 14 = .ok (.bipush 20, 2) := by decide +kernel
theorem dX10_list_16 : decode (mc mX10_list) 16 = .ok (.if_icmp .le 10, 3) := by decide +kernel
theorem dX10_list_19 : decode (mc mX10_list) 19 = .ok (.aload_n 0, 1) := by decide +kernel
theorem dX10_list_20 : decode (mc mX10_list) 20 = .ok (.bipush (-6), 2) := by decide +kernel
theorem dX10_list_22 : decode (mc mX10_list) 22 = .ok (.invokevirtual 92, 3) := by decide +kernel
theorem dX10_list_25 : decode (mc mX10_list) 25 = .ok (.ireturn, 1) := by decide +kernel
theorem dX10_list_26 : decode (mc mX10_list) 26 = .ok (.iload_n 2, 1) := by decide +kernel
theorem dX10_list_27 : decode (mc mX10_list) 27 = .ok (.ifCond .ge 6, 3) := by decide +kernel
theorem dX10_list_30 : decode (mc mX10_list) 30 = .ok (.bipush (-14), 2) := by decide +kernel
theorem dX10_list_32 : decode (mc mX10_list) 32 = .ok (.ireturn, 1) := by decide +kernel
theorem dX10_list_33 : decode (mc mX10_list) 33 = .ok (.aload_n 0, 1) := by decide +kernel
theorem dX10_list_34 : decode (mc mX10_list) 34 = .ok (.getfield 76, 3) := by decide +kernel
theorem dX10_list_37 : decode (mc mX10_list) 37 = .ok (.iload_n 1, 1) := by decide +kernel
theorem dX10_list_38 : decode (mc mX10_list) 38 = .ok (.aaload, 1) := by decide +kernel
theorem dX10_list_39 : decode (mc mX10_list) 39 = .ok (.iload_n 2, 1) := by decide +kernel
theorem dX10_list_40 : decode (mc mX10_list) 40 = .ok (.invokevirtual 296, 3) := by decide +kernel
theorem dX10_list_43 : decode (mc mX10_list) 43 = .ok (.iconst 1, 1) := by decide +kernel
theorem dX10_list_44 : decode (mc mX10_list) 44 = .ok (.ireturn, 1) := by decide +kernel
theorem dX10_put_0 : decode (mc mX10_put) 0 = .ok (.iload_n 1, 1) := by decide +kernel
theorem dX10_put_1 : decode (mc mX10_put) 1 = .ok (.invokestatic 272, 3) := by decide +kernel
theorem dX10_put_4 : decode (mc mX10_put) 4 = .ok (.ifCond .eq 9, 3) := by decide +kernel
theorem dX10_put_7 : decode (mc mX10_put) 7 = .ok (.aload_n 0, 1) := by decide +kernel
theorem dX10_put_8 : decode (mc mX10_put) 8 = .ok (.iconst (-1), 1) := by decide +kernel
theorem dX10_put_9 : decode (mc mX10_put) 9 = .ok (.invokevirtual 92, 3) := by decide +kernel
theorem dX10_put_12 : decode (mc mX10_put) 12 = .ok (.ireturn, 1) := by decide +kernel
theorem dX10_put_13 : decode (mc mX10_put) 13 = .ok (.aload_n 0, 1) := by decide +kernel
theorem dX10_put_14 : decode (mc mX10_put) 14 = .ok (.getfield 76, 3) := by decide +kernel
theorem dX10_put_17 : decode (mc mX10_put) 17 = .ok (.iload_n 1, 1) := by decide +kernel
theorem dX10_put_18 : decode (mc mX10_put) 18 = .ok (.aaload, 1) := by decide +kernel
theorem dX10_put_19 : decode (mc mX10_put) 19 = .ok (.getfield 275, 3) := by decide +kernel
theorem dX10_put_22 : decode (mc mX10_put) 22 = .ok (.ifCond .ge 6, 3) := by decide +kernel
theorem dX10_put_25 : decode (mc mX10_put) 25 = .ok (.bipush (-11), 2) := by decide +kernel
theorem dX10_put_27 : decode (mc mX10_put) 27 = .ok (.ireturn, 1) := by decide +kernel
theorem dX10_put_28 : decode (mc mX10_put) 28 = .ok (.aload_n 0, 1) := by decide +kernel
theorem dX10_put_29 : decode (mc mX10_put) 29 = .ok (.getfield 76, 3) := by decide +kernel
theorem dX10_put_32 : decode (mc mX10_put) 32 = .ok (.iload_n 1, 1) := by decide +kernel
theorem dX10_put_33 : decode (mc mX10_put) 33 = .ok (.aaload, 1) := by decide +kernel
theorem dX10_put_34 : decode (mc mX10_put) 34 = .ok (.iload_n 2, 1) := by decide +kernel
theorem dX10_put_35 : decode (mc mX10_put) 35 = .ok (.iload_n 3, 1) := by decide +kernel
theorem dX10_put_36 : decode (mc mX10_put) 36 = .ok (.invokevirtual 300, 3) := by decide +kernel
theorem dX10_put_39 : decode (mc mX10_put) 39 = .ok (.ifCond .eq 7, 3) := by decide +kernel
theorem dX10_put_42 : decode (mc mX10_put) 42 = .ok (.iconst 1, 1) := by decide +kernel
theorem dX10_put_43 : decode (mc mX10_put) 43 = .ok (.goto 5, 3) := by decide +kernel
theorem dX10_put_46 : decode (mc mX10_put) 46 = .ok (.bipush (-13), 2) := by decide +kernel
theorem dX10_put_48 : decode (mc mX10_put) 48 = .ok (.ireturn, 1) := by decide +kernel
theorem dX10_lays_0 : decode (mc mX10_lays) 0 = .ok (.iload_n 1, 1) := by decide +kernel
theorem dX10_lays_1 : decode (mc mX10_lays) 1 = .ok (.invokestatic 272, 3) := by decide +kernel
theorem dX10_lays_4 : decode (mc mX10_lays) 4 = .ok (.ifCond .eq 9, 3) := by decide +kernel
theorem dX10_lays_7 : decode (mc mX10_lays) 7 = .ok (.aload_n 0, 1) := by decide +kernel
theorem dX10_lays_8 : decode (mc mX10_lays) 8 = .ok (.iconst (-1), 1) := by decide +kernel
theorem dX10_lays_9 : decode (mc mX10_lays) 9 = .ok (.invokevirtual 92, 3) := by decide +kernel
theorem dX10_lays_12 : decode (mc mX10_lays) 12 = .ok (.ireturn, 1) := by decide +kernel
theorem dX10_lays_13 : decode (mc mX10_lays) 13 = .ok (.aload_n 0, 1) := by decide +kernel
theorem dX10_lays_14 : decode (mc mX10_lays) 14 = .ok (.invokevirtual 188, 3) := by decide +kernel
theorem dX10_lays_17 : decode (mc mX10_lays) 17 = .ok (.ifCond .ge 10, 3) := by decide +kernel
theorem dX10_lays_20 : decode (mc mX10_lays) 20 = .ok (.aload_n 0, 1) := by decide +kernel
theorem dX10_lays_21 : decode (mc mX10_lays) 21 = .ok (.bipush (-3), 2) := by decide +kernel
theorem dX10_lays_23 : decode (mc mX10_lays) 23 = .ok (.invokevirtual 92, 3) := by decide +kernel
theorem dX10_lays_26 : decode (mc mX10_lays) 26 = .ok (.ireturn, 1) := by decide +kernel
theorem dX10_lays_27 : decode (mc mX10_lays) 27 = .ok (.aload_n 0, 1) := by decide +kernel
theorem dX10_lays_28 : decode (mc mX10_lays) 28 = .ok (.getfield 76, 3) := by decide +kernel
theorem dX10_lays_31 : decode (mc mX10_lays) 31 = .ok (.iload_n 1, 1) := by decide +kernel
theorem dX10_lays_32 : decode (mc mX10_lays) 32 = .ok (.aaload, 1) := by decide +kernel
theorem dX10_lays_33 : decode (mc mX10_lays) 33 = .ok (.getfield 275, 3) := by decide +kernel
theorem dX10_lays_36 : decode (mc mX10_lays) 36 = .ok (.ifCond .ge 6, 3) := by decide +kernel
theorem dX10_lays_39 : decode (mc mX10_lays) 39 = .ok (.bipush (-11), 2) := by decide +kernel
theorem dX10_lays_41 : decode (mc mX10_lays) 41 = .ok (.ireturn, 1) := by decide +kernel
theorem dX10_lays_42 : decode (mc mX10_lays) 42 = .ok (.iconst 0, 1) := by decide +kernel
theorem dX10_lays_43 : decode (mc mX10_lays) 43 = .ok (.istore_n 3, 1) := by decide +kernel
theorem dX10_lays_44 : decode (mc mX10_lays) 44 = .ok (.iload_n 3, 1) := by decide +kernel
theorem dX10_lays_45 : decode (mc mX10_lays) 45 = .ok (.aload_n 0, 1) := by decide +kernel
theorem dX10_lays_46 : decode (mc mX10_lays) 46 = .ok (.getfield 10, 3) := by decide +kernel
theorem dX10_lays_49 : decode (mc mX10_lays) 49 = .ok (.getfield 223, 3) := by decide +kernel
theorem dX10_lays_52 : decode (mc mX10_lays) 52 = .ok (.if_icmp .ge 36, 3) := by decide +kernel
theorem dX10_lays_55 : decode (mc mX10_lays) 55 = .ok (.aload_n 0, 1) := by decide +kernel
theorem dX10_lays_56 : decode (mc mX10_lays) 56 = .ok (.getfield 76, 3) := by decide +kernel
theorem dX10_lays_59 : decode (mc mX10_lays) 59 = .ok (.iload_n 1, 1) := by decide +kernel
theorem dX10_lays_60 : decode (mc mX10_lays) 60 = .ok (.aaload, 1) := by decide +kernel
theorem dX10_lays_61 : decode (mc mX10_lays) 61 = .ok (.iload_n 2, 1) := by decide +kernel
theorem dX10_lays_62 : decode (mc mX10_lays) 62 = .ok (.iload_n 3, 1) := by decide +kernel
theorem dX10_lays_63 : decode (mc mX10_lays) 63 = .ok (.iadd, 1) := by decide +kernel
theorem dX10_lays_64 : decode (mc mX10_lays) 64 = .ok (.aload_n 0, 1) := by decide +kernel
theorem dX10_lays_65 : decode (mc mX10_lays) 65 = .ok (.getfield 52, 3) := by decide +kernel
theorem dX10_lays_68 : decode (mc mX10_lays) 68 = .ok (.getfield 191, 3) := by decide +kernel
theorem dX10_lays_71 : decode (mc mX10_lays) 71 = .ok (.iload_n 3, 1) := by decide +kernel
theorem dX10_lays_72 : decode (mc mX10_lays) 72 = .ok (.iaload, 1) := by decide +kernel
theorem dX10_lays_73 : decode (mc mX10_lays) 73 = .ok (.invokevirtual 300, 3) := by decide +kernel
theorem dX10_lays_76 : decode (mc mX10_lays) 76 = .ok (.ifCond .ne 6, 3) := by decide +kernel
theorem dX10_lays_79 : decode (mc mX10_lays) 79 = .ok (.bipush (-13), 2) := by decide +kernel
theorem dX10_lays_81 : decode (mc mX10_lays) 81 = .ok (.ireturn, 1) := by decide +kernel
theorem dX10_lays_82 : decode (mc mX10_lays) 82 = .ok (.iinc 3 1, 3) := by decide +kernel
theorem dX10_lays_85 : decode (mc mX10_lays) 85 = .ok (.goto (-41), 3) := by decide +kernel
theorem dX10_lays_88 : decode (mc mX10_lays) 88 = .ok (.aload_n 0, 1) := by decide +kernel
theorem dX10_lays_89 : decode (mc mX10_lays) 89 = .ok (.getfield 10, 3) := by decide +kernel
theorem dX10_lays_92 : decode (mc mX10_lays) 92 = .ok (.getfield 223, 3) := by decide +kernel
theorem dX10_lays_95 : decode (mc mX10_lays) 95 = .ok (.ireturn, 1) := by decide +kernel
theorem dX10_pays_0 : decode (mc mX10_pays) 0 = .ok (.lload_n 1, 1) := by decide +kernel
theorem dX10_pays_1 : decode (mc mX10_pays) 1 = .ok (.lload_n 3, 1) := by decide +kernel
theorem dX10_pays_2 : decode (mc mX10_pays) 2 = .ok (.invokestatic 303, 3) := by decide +kernel
theorem dX10_pays_5 : decode (mc mX10_pays) 5 = .ok (.ifCond .eq 6, 3) := by decide +kernel
theorem dX10_pays_8 : decode (mc mX10_pays) 8 = .ok (.bipush (-7), 2) := by decide +kernel
theorem dX10_pays_10 : decode (mc mX10_pays) 10 = .ok (.ireturn, 1) := by decide +kernel
theorem dX10_pays_11 : decode (mc mX10_pays) 11 = .ok (.lload_n 1, 1) := by decide +kernel
theorem dX10_pays_12 : decode (mc mX10_pays) 12 = .ok (.lload_n 3, 1) := by decide +kernel
theorem dX10_pays_13 : decode (mc mX10_pays) 13 = .ok (.lmul, 1) := by decide +kernel
theorem dX10_pays_14 : decode (mc mX10_pays) 14 = .ok (.lstore 5, 2) := by decide +kernel
theorem dX10_pays_16 : decode (mc mX10_pays) 16 = .ok (.aload_n 0, 1) := by decide +kernel
theorem dX10_pays_17 : decode (mc mX10_pays) 17 = .ok (.getfield 10, 3) := by decide +kernel
theorem dX10_pays_20 : decode (mc mX10_pays) 20 = .ok (.getfield 307, 3) := by decide +kernel
theorem dX10_pays_23 : decode (mc mX10_pays) 23 = .ok (.lload 5, 2) := by decide +kernel
theorem dX10_pays_25 : decode (mc mX10_pays) 25 = .ok (.ladd, 1) := by decide +kernel
theorem dX10_pays_26 : decode (mc mX10_pays) 26 = .ok (.lstore 7, 2) := by decide +kernel
theorem dX10_pays_28 : decode (mc mX10_pays) 28 = .ok (.aload_n 0, 1) := by decide +kernel
theorem dX10_pays_29 : decode (mc mX10_pays) 29 = .ok (.getfield 10, 3) := by decide +kernel
theorem dX10_pays_32 : decode (mc mX10_pays) 32 = .ok (.getfield 307, 3) := by decide +kernel
theorem dX10_pays_35 : decode (mc mX10_pays) 35 = .ok (.lload 7, 2) := by decide +kernel
theorem dX10_pays_37 : decode (mc mX10_pays) 37 = .ok (.lxor, 1) := by decide +kernel
theorem dX10_pays_38 : decode (mc mX10_pays) 38 = .ok (.lload 5, 2) := by decide +kernel
theorem dX10_pays_40 : decode (mc mX10_pays) 40 = .ok (.lload 7, 2) := by decide +kernel
theorem dX10_pays_42 : decode (mc mX10_pays) 42 = .ok (.lxor, 1) := by decide +kernel
theorem dX10_pays_43 : decode (mc mX10_pays) 43 = .ok (.land, 1) := by decide +kernel
theorem dX10_pays_44 : decode (mc mX10_pays) 44 = .ok (.lconst 0, 1) := by decide +kernel
theorem dX10_pays_45 : decode (mc mX10_pays) 45 = .ok (.lcmp, 1) := by decide +kernel
theorem dX10_pays_46 : decode (mc mX10_pays) 46 = .ok (.ifCond .ge 6, 3) := by decide +kernel
theorem dX10_pays_49 : decode (mc mX10_pays) 49 = .ok (.bipush (-7), 2) := by decide +kernel
theorem dX10_pays_51 : decode (mc mX10_pays) 51 = .ok (.ireturn, 1) := by decide +kernel
theorem dX10_pays_52 : decode (mc mX10_pays) 52 = .ok (.aload_n 0, 1) := by decide +kernel
theorem dX10_pays_53 : decode (mc mX10_pays) 53 = .ok (.getfield 10, 3) := by decide +kernel
theorem dX10_pays_56 : decode (mc mX10_pays) 56 = .ok (.lload 7, 2) := by decide +kernel
theorem dX10_pays_58 : decode (mc mX10_pays) 58 = .ok (.putfield 307, 3) := by decide +kernel
theorem dX10_pays_61 : decode (mc mX10_pays) 61 = .ok (.iconst 1, 1) := by decide +kernel
theorem dX10_pays_62 : decode (mc mX10_pays) 62 = .ok (.ireturn, 1) := by decide +kernel
theorem dX10_purse_0 : decode (mc mX10_purse) 0 = .ok (.aload_n 0, 1) := by decide +kernel
theorem dX10_purse_1 : decode (mc mX10_purse) 1 = .ok (.getfield 10, 3) := by decide +kernel
theorem dX10_purse_4 : decode (mc mX10_purse) 4 = .ok (.getfield 307, 3) := by decide +kernel
theorem dX10_purse_7 : decode (mc mX10_purse) 7 = .ok (.lreturn, 1) := by decide +kernel
theorem dX10_bills_0 : decode (mc mX10_bills) 0 = .ok (.aload_n 0, 1) := by decide +kernel
theorem dX10_bills_1 : decode (mc mX10_bills) 1 = .ok (.invokevirtual 188, 3) := by decide +kernel
theorem dX10_bills_4 : decode (mc mX10_bills) 4 = .ok (.istore_n 2, 1) := by decide +kernel
theorem dX10_bills_5 : decode (mc mX10_bills) 5 = .ok (.iload_n 2, 1) := by decide +kernel
theorem dX10_bills_6 : decode (mc mX10_bills) 6 = .ok (.ifCond .ge 10, 3) := by decide +kernel
theorem dX10_bills_9 : decode (mc mX10_bills) 9 = .ok (.aload_n 0, 1) := by decide +kernel
theorem dX10_bills_10 : decode (mc mX10_bills) 10 = .ok (.bipush (-3), 2) := by decide +kernel
theorem dX10_bills_12 : decode (mc mX10_bills) 12 = .ok (.invokevirtual 92, 3) := by decide +kernel
theorem dX10_bills_15 : decode (mc mX10_bills) 15 = .ok (.ireturn, 1) := by decide +kernel
theorem dX10_bills_16 : decode (mc mX10_bills) 16 = .ok (.iload_n 1, 1) := by decide +kernel
theorem dX10_bills_17 : decode (mc mX10_bills) 17 = .ok (.i2l, 1) := by decide +kernel
theorem dX10_bills_18 : decode (mc mX10_bills) 18 = .ok (.iload_n 2, 1) := by decide +kernel
theorem dX10_bills_19 : decode (mc mX10_bills) 19 = .ok (.i2l, 1) := by decide +kernel
theorem dX10_bills_20 : decode (mc mX10_bills) 20 = .ok (.lmul, 1) := by decide +kernel
theorem dX10_bills_21 : decode (mc mX10_bills) 21 = .ok (.lstore_n 3, 1) := by decide +kernel
theorem dX10_bills_22 : decode (mc mX10_bills) 22 = .ok (.aload_n 0, 1) := by decide +kernel
theorem dX10_bills_23 : decode (mc mX10_bills) 23 = .ok (.getfield 10, 3) := by decide +kernel
theorem dX10_bills_26 : decode (mc mX10_bills) 26 = .ok (.getfield 307, 3) := by decide +kernel
theorem dX10_bills_29 : decode (mc mX10_bills) 29 = .ok (.lload_n 3, 1) := by decide +kernel
theorem dX10_bills_30 : decode (mc mX10_bills) 30 = .ok (.lsub, 1) := by decide +kernel
theorem dX10_bills_31 : decode (mc mX10_bills) 31 = .ok (.lstore 5, 2) := by decide +kernel
theorem dX10_bills_33 : decode (mc mX10_bills) 33 = .ok (.aload_n 0, 1) := by decide +kernel
theorem dX10_bills_34 : decode (mc mX10_bills) 34 = .ok (.getfield 10, 3) := by decide +kernel
theorem dX10_bills_37 : decode (mc mX10_bills) 37 = .ok (.getfield 307, 3) := by decide +kernel
theorem dX10_bills_40 : decode (mc mX10_bills) 40 = .ok (.lload_n 3, 1) := by decide +kernel
theorem dX10_bills_41 : decode (mc mX10_bills) 41 = .ok (.lxor, 1) := by decide +kernel
theorem dX10_bills_42 : decode (mc mX10_bills) 42 = .ok (.aload_n 0, 1) := by decide +kernel
theorem dX10_bills_43 : decode (mc mX10_bills) 43 = .ok (.getfield 10, 3) := by decide +kernel
theorem dX10_bills_46 : decode (mc mX10_bills) 46 = .ok (.getfield 307, 3) := by decide +kernel
theorem dX10_bills_49 : decode (mc mX10_bills) 49 = .ok (.lload 5, 2) := by decide +kernel
theorem dX10_bills_51 : decode (mc mX10_bills) 51 = .ok (.lxor, 1) := by decide +kernel
theorem dX10_bills_52 : decode (mc mX10_bills) 52 = .ok (.land, 1) := by decide +kernel
theorem dX10_bills_53 : decode (mc mX10_bills) 53 = .ok (.lconst 0, 1) := by decide +kernel
theorem dX10_bills_54 : decode (mc mX10_bills) 54 = .ok (.lcmp, 1) := by decide +kernel
theorem dX10_bills_55 : decode (mc mX10_bills) 55 = .ok (.ifCond .ge 6, 3) := by decide +kernel
theorem dX10_bills_58 : decode (mc mX10_bills) 58 = .ok (.bipush (-7), 2) := by decide +kernel
theorem dX10_bills_60 : decode (mc mX10_bills) 60 = .ok (.ireturn, 1) := by decide +kernel
theorem dX10_bills_61 : decode (mc mX10_bills) 61 = .ok (.aload_n 0, 1) := by decide +kernel
theorem dX10_bills_62 : decode (mc mX10_bills) 62 = .ok (.getfield 10, 3) := by decide +kernel
theorem dX10_bills_65 : decode (mc mX10_bills) 65 = .ok (.lload 5, 2) := by decide +kernel
theorem dX10_bills_67 : decode (mc mX10_bills) 67 = .ok (.putfield 307, 3) := by decide +kernel
theorem dX10_bills_70 : decode (mc mX10_bills) 70 = .ok (.iconst 1, 1) := by decide +kernel
theorem dX10_bills_71 : decode (mc mX10_bills) 71 = .ok (.ireturn, 1) := by decide +kernel
theorem dX10_rack_0 : decode (mc mX10_rack) 0 = .ok (.iload_n 1, 1) := by decide +kernel
theorem dX10_rack_1 : decode (mc mX10_rack) 1 = .ok (.invokestatic 311, 3) := by decide +kernel
theorem dX10_rack_4 : decode (mc mX10_rack) 4 = .ok (.ifCond .eq 9, 3) := by decide +kernel
theorem dX10_rack_7 : decode (mc mX10_rack) 7 = .ok (.aload_n 0, 1) := by decide +kernel
theorem dX10_rack_8 : decode (mc mX10_rack) 8 = .ok (.iconst (-1), 1) := by decide +kernel
theorem dX10_rack_9 : decode (mc mX10_rack) 9 = .ok (.invokevirtual 92, 3) := by decide +kernel
theorem dX10_rack_12 : decode (mc mX10_rack) 12 = .ok (.ireturn, 1) := by decide +kernel
theorem dX10_rack_13 : decode (mc mX10_rack) 13 = .ok (.iload_n 2, 1) := by decide +kernel
theorem dX10_rack_14 : decode (mc mX10_rack) 14 = .ok (.ifCond .lt 9, 3) := by decide +kernel
theorem dX10_rack_17 : decode (mc mX10_rack) 17 = .ok (.iload_n 2, 1) := by decide +kernel
theorem dX10_rack_18 : decode (mc mX10_rack) 18 = .ok (.bipush 6, 2) := by decide +kernel
theorem dX10_rack_20 : decode (mc mX10_rack) 20 = .ok (.if_icmp .lt 10, 3) := by decide +kernel
theorem dX10_rack_23 : decode (mc mX10_rack) 23 = .ok (.aload_n 0, 1) := by decide +kernel
theorem dX10_rack_24 : decode (mc mX10_rack) 24 = .ok (.bipush (-2), 2) := by decide +kernel
theorem dX10_rack_26 : decode (mc mX10_rack) 26 = .ok (.invokevirtual 92, 3) := by decide +kernel
theorem dX10_rack_29 : decode (mc mX10_rack) 29 = .ok (.ireturn, 1) := by decide +kernel
theorem dX10_rack_30 : decode (mc mX10_rack) 30 = .ok (.iload_n 3, 1) := by decide +kernel
theorem dX10_rack_31 : decode (mc mX10_rack) 31 = .ok (.bipush 9, 2) := by decide +kernel
theorem dX10_rack_33 : decode (mc mX10_rack) 33 = .ok (.if_icmp .le 10, 3) := by decide +kernel
theorem dX10_rack_36 : decode (mc mX10_rack) 36 = .ok (.aload_n 0, 1) := by decide +kernel
theorem dX10_rack_37 : decode (mc mX10_rack) 37 = .ok (.bipush (-6), 2) := by decide +kernel
theorem dX10_rack_39 : decode (mc mX10_rack) 39 = .ok (.invokevirtual 92, 3) := by decide +kernel
theorem dX10_rack_42 : decode (mc mX10_rack) 42 = .ok (.ireturn, 1) := by decide +kernel
theorem dX10_rack_43 : decode (mc mX10_rack) 43 = .ok (.iload_n 3, 1) := by decide +kernel
theorem dX10_rack_44 : decode (mc mX10_rack) 44 = .ok (.ifCond .ge 6, 3) := by decide +kernel
theorem dX10_rack_47 : decode (mc mX10_rack) 47 = .ok (.bipush (-14), 2) := by decide +kernel
theorem dX10_rack_49 : decode (mc mX10_rack) 49 = .ok (.ireturn, 1) := by decide +kernel
theorem dX10_rack_50 : decode (mc mX10_rack) 50 = .ok (.aload_n 0, 1) := by decide +kernel
theorem dX10_rack_51 : decode (mc mX10_rack) 51 = .ok (.getfield 82, 3) := by decide +kernel
theorem dX10_rack_54 : decode (mc mX10_rack) 54 = .ok (.iload_n 1, 1) := by decide +kernel
theorem dX10_rack_55 : decode (mc mX10_rack) 55 = .ok (.aaload, 1) := by decide +kernel
theorem dX10_rack_56 : decode (mc mX10_rack) 56 = .ok (.iload_n 2, 1) := by decide +kernel
theorem dX10_rack_57 : decode (mc mX10_rack) 57 = .ok (.iload_n 3, 1) := by decide +kernel
theorem dX10_rack_58 : decode (mc mX10_rack) 58 = .ok (.invokevirtual 314, 3) := by decide +kernel
theorem dX10_rack_61 : decode (mc mX10_rack) 61 = .ok (.iconst 1, 1) := by decide +kernel
theorem dX10_rack_62 : decode (mc mX10_rack) 62 = .ok (.ireturn, 1) := by decide +kernel
theorem dX10_racks_0 : decode (mc mX10_racks) 0 = .ok (.iload_n 1, 1) := by decide +kernel
theorem dX10_racks_1 : decode (mc mX10_racks) 1 = .ok (.invokestatic 311, 3) := by decide +kernel
theorem dX10_racks_4 : decode (mc mX10_racks) 4 = .ok (.ifCond .ne 19, 3) := by decide +kernel
theorem dX10_racks_7 : decode (mc mX10_racks) 7 = .ok (.iload_n 3, 1) := by decide +kernel
theorem dX10_racks_8 : decode (mc mX10_racks) 8 = .ok (.iconst (-1), 1) := by decide +kernel
theorem dX10_racks_9 : decode (mc mX10_racks) 9 = .ok (.if_icmp .eq 20, 3) := by decide +kernel
theorem dX10_racks_12 : decode (mc mX10_racks) 12 = .ok (.aload_n 0, 1) := by decide +kernel
theorem dX10_racks_13 : decode (mc mX10_racks) 13 = .ok (.getfield 10, 3) := by decide +kernel
theorem dX10_racks_16 : decode (mc mX10_racks) 16 = .ok (.iload_n 3, 1) := by decide +kernel
theorem dX10_racks_17 : decode (mc mX10_racks) 17 = .ok (.invokevirtual 144, 3) := by decide +kernel
theorem dX10_racks_20 : decode (mc mX10_racks) 20 = .ok (.ifCond .eq 9, 3) := by decide +kernel
theorem dX10_racks_23 : decode (mc mX10_racks) 23 = .ok (.aload_n 0, 1) := by decide +kernel
theorem dX10_racks_24 : decode (mc mX10_racks) 24 = .ok (.iconst (-1), 1) := by decide +kernel
theorem dX10_racks_25 : decode (mc mX10_racks) 25 = .ok (.invokevirtual 92, 3) := by decide +kernel
theorem dX10_racks_28 : decode (mc mX10_racks) 28 = .ok (.ireturn, 1) := by decide +kernel
theorem dX10_racks_29 : decode (mc mX10_racks) 29 = .ok (.aload_n 0, 1) := by decide +kernel
theorem dX10_racks_30 : decode (mc mX10_racks) 30 = .ok (.getfield 82, 3) := by decide +kernel
theorem dX10_racks_33 : decode (mc mX10_racks) 33 = .ok (.iload_n 1, 1) := by decide +kernel
theorem dX10_racks_34 : decode (mc mX10_racks) 34 = .ok (.aaload, 1) := by decide +kernel
theorem dX10_racks_35 : decode (mc mX10_racks) 35 = .ok (.astore 4, 2) := by decide +kernel
theorem dX10_racks_37 : decode (mc mX10_racks) 37 = .ok (.aload 4, 2) := by decide +kernel
theorem dX10_racks_39 : decode (mc mX10_racks) 39 = .ok (.getfield 317, 3) := by decide +kernel
theorem dX10_racks_42 : decode (mc mX10_racks) 42 = .ok (.ifCond .ge 6, 3) := by decide +kernel
theorem dX10_racks_45 : decode (mc mX10_racks) 45 = .ok (.bipush (-11), 2) := by decide +kernel
theorem dX10_racks_47 : decode (mc mX10_racks) 47 = .ok (.ireturn, 1) := by decide +kernel
theorem dX10_racks_48 : decode (mc mX10_racks) 48 = .ok (.aload 4, 2) := by decide +kernel
theorem dX10_racks_50 : decode (mc mX10_racks) 50 = .ok (.iload_n 2, 1) := by decide +kernel
theorem dX10_racks_51 : decode (mc mX10_racks) 51 = .ok (.invokevirtual 318, 3) := by decide +kernel
theorem dX10_racks_54 : decode (mc mX10_racks) 54 = .ok (.ifCond .eq 6, 3) := by decide +kernel
theorem dX10_racks_57 : decode (mc mX10_racks) 57 = .ok (.bipush (-13), 2) := by decide +kernel
theorem dX10_racks_59 : decode (mc mX10_racks) 59 = .ok (.ireturn, 1) := by decide +kernel
theorem dX10_racks_60 : decode (mc mX10_racks) 60 = .ok (.iload_n 3, 1) := by decide +kernel
theorem dX10_racks_61 : decode (mc mX10_racks) 61 = .ok (.iconst (-1), 1) := by decide +kernel
theorem dX10_racks_62 : decode (mc mX10_racks) 62 = .ok (.if_icmp .ne 13, 3) := by decide +kernel
theorem dX10_racks_65 : decode (mc mX10_racks) 65 = .ok (.aload 4, 2) := by decide +kernel
theorem dX10_racks_67 : decode (mc mX10_racks) 67 = .ok (.getfield 321, 3) := by decide +kernel
theorem dX10_racks_70 : decode (mc mX10_racks) 70 = .ok (.iload_n 2, 1) := by decide +kernel
theorem dX10_racks_71 : decode (mc mX10_racks) 71 = .ok (.iconst 0, 1) := by decide +kernel
theorem dX10_racks_72 : decode (mc mX10_racks) 72 = .ok (.bastore, 1) := by decide +kernel
theorem dX10_racks_73 : decode (mc mX10_racks) 73 = .ok (.iconst 1, 1) := by decide +kernel
theorem dX10_racks_74 : decode (mc mX10_racks) 74 = .ok (.ireturn, 1) := by decide +kernel
theorem dX10_racks_75 : decode (mc mX10_racks) 75 = .ok (.aload_n 0, 1) := by decide +kernel
theorem dX10_racks_76 : decode (mc mX10_racks) 76 = .ok (.getfield 10, 3) := by decide +kernel
theorem dX10_racks_79 : decode (mc mX10_racks) 79 = .ok (.getfield 148, 3) := by decide +kernel
theorem dX10_racks_82 : decode (mc mX10_racks) 82 = .ok (.iload_n 3, 1) := by decide +kernel
theorem dX10_racks_83 : decode (mc mX10_racks) 83 = .ok (.aaload, 1) := by decide +kernel
theorem dX10_racks_84 : decode (mc mX10_racks) 84 = .ok (.aload 4, 2) := by decide +kernel
theorem dX10_racks_86 : decode (mc mX10_racks) 86 = .ok (.getfield 325, 3) := by decide +kernel
theorem dX10_racks_89 : decode (mc mX10_racks) 89 = .ok (.invokevirtual 326, 3) := by decide +kernel
theorem dX10_racks_92 : decode (mc mX10_racks) 92 = .ok (.ifCond .ne 6, 3) := by decide +kernel
theorem dX10_racks_95 : decode (mc mX10_racks) 95 = .ok (.bipush (-16), 2) := by decide +kernel
theorem dX10_racks_97 : decode (mc mX10_racks) 97 = .ok (.ireturn, 1) := by decide +kernel
theorem dX10_racks_98 : decode (mc mX10_racks) 98 = .ok (.aload 4, 2) := by decide +kernel
theorem dX10_racks_100 : decode (mc mX10_racks) 100 = .ok (.getfield 329, 3) := by decide +kernel
theorem dX10_racks_103 : decode (mc mX10_racks) 103 = .ok (.iload_n 2, 1) := by decide +kernel
theorem dX10_racks_104 : decode (mc mX10_racks) 104 = .ok (.aaload, 1) := by decide +kernel
theorem dX10_racks_105 : decode (mc mX10_racks) 105 = .ok (.aload_n 0, 1) := by decide +kernel
theorem dX10_racks_106 : decode (mc mX10_racks) 106 = .ok (.getfield 10, 3) := by decide +kernel
theorem dX10_racks_109 : decode (mc mX10_racks) 109 = .ok (.getfield 148, 3) := by decide +kernel
theorem dX10_racks_112 : decode (mc mX10_racks) 112 = .ok (.iload_n 3, 1) := by decide +kernel
theorem dX10_racks_113 : decode (mc mX10_racks) 113 = .ok (.aaload, 1) := by decide +kernel
theorem dX10_racks_114 : decode (mc mX10_racks) 114 = .ok (.invokevirtual 332, 3) := by decide +kernel
theorem dX10_racks_117 : decode (mc mX10_racks) 117 = .ok (.aload 4, 2) := by decide +kernel
theorem dX10_racks_119 : decode (mc mX10_racks) 119 = .ok (.getfield 321, 3) := by decide +kernel
theorem dX10_racks_122 : decode (mc mX10_racks) 122 = .ok (.iload_n 2, 1) := by decide +kernel
theorem dX10_racks_123 : decode (mc mX10_racks) 123 = .ok (.iconst 1, 1) := by decide +kernel
theorem dX10_racks_124 : decode (mc mX10_racks) 124 = .ok (.bastore, 1) := by decide +kernel
theorem dX10_racks_125 : decode (mc mX10_racks) 125 = .ok (.iconst 1, 1) := by decide +kernel
theorem dX10_racks_126 : decode (mc mX10_racks) 126 = .ok (.ireturn, 1) := by decide +kernel
theorem dX10_racked_0 : decode (mc mX10_racked) 0 = .ok (.iload_n 1, 1) := by decide +kernel
theorem dX10_racked_1 : decode (mc mX10_racked) 1 = .ok (.invokestatic 311, 3) := by decide +kernel
theorem dX10_racked_4 : decode (mc mX10_racked) 4 = .ok (.ifCond .eq 9, 3) := by decide +kernel
theorem dX10_racked_7 : decode (mc mX10_racked) 7 = .ok (.aload_n 0, 1) := by decide +kernel
theorem dX10_racked_8 : decode (mc mX10_racked) 8 = .ok (.iconst (-1), 1) := by decide +kernel
theorem dX10_racked_9 : decode (mc mX10_racked) 9 = .ok (.invokevirtual 92, 3) := by decide +kernel
theorem dX10_racked_12 : decode (mc mX10_racked) 12 = .ok (.ireturn, 1) := by decide +kernel
theorem dX10_racked_13 : decode (mc mX10_racked) 13 = .ok (.iload_n 3, 1) := by decide +kernel
theorem dX10_racked_14 : decode (mc mX10_racked) 14 = .ok (.iconst 1, 1) := by decide +kernel
theorem dX10_racked_15 : decode (mc mX10_racked) 15 = .ok (.if_icmp .ge 10, 3) := by decide +kernel
theorem dX10_racked_18 : decode (mc mX10_racked) 18 = .ok (.aload_n 0, 1) := by decide +kernel
theorem dX10_racked_19 : decode (mc mX10_racked) 19 = .ok (.bipush (-4), 2) := by decide +kernel
theorem dX10_racked_21 : decode (mc mX10_racked) 21 = .ok (.invokevirtual 92, 3) := by decide +kernel
theorem dX10_racked_24 : decode (mc mX10_racked) 24 = .ok (.ireturn, 1) := by decide +kernel
theorem dX10_racked_25 : decode (mc mX10_racked) 25 = .ok (.iload_n 3, 1) := by decide +kernel
theorem dX10_racked_26 : decode (mc mX10_racked) 26 = .ok (.bipush 9, 2) := by decide +kernel
theorem dX10_racked_28 : decode (mc mX10_racked) 28 = .ok (.if_icmp .le 10, 3) := by decide +kernel
theorem dX10_racked_31 : decode (mc mX10_racked) 31 = .ok (.aload_n 0, 1) := by decide +kernel
theorem dX10_racked_32 : decode (mc mX10_racked) 32 = .ok (.bipush (-6), 2) := by decide +kernel
theorem dX10_racked_34 : decode (mc mX10_racked) 34 = .ok (.invokevirtual 92, 3) := by decide +kernel
theorem dX10_racked_37 : decode (mc mX10_racked) 37 = .ok (.ireturn, 1) := by decide +kernel
theorem dX10_racked_38 : decode (mc mX10_racked) 38 = .ok (.aload_n 0, 1) := by decide +kernel
theorem dX10_racked_39 : decode (mc mX10_racked) 39 = .ok (.getfield 82, 3) := by decide +kernel
theorem dX10_racked_42 : decode (mc mX10_racked) 42 = .ok (.iload_n 1, 1) := by decide +kernel
theorem dX10_racked_43 : decode (mc mX10_racked) 43 = .ok (.aaload, 1) := by decide +kernel
theorem dX10_racked_44 : decode (mc mX10_racked) 44 = .ok (.astore 4, 2) := by decide +kernel
theorem dX10_racked_46 : decode (mc mX10_racked) 46 = .ok (.aload 4, 2) := by decide +kernel
theorem dX10_racked_48 : decode (mc mX10_racked) 48 = .ok (.getfield 317, 3) := by decide +kernel
theorem dX10_racked_51 : decode (mc mX10_racked) 51 = .ok (.ifCond .ge 6, 3) := by decide +kernel
theorem dX10_racked_54 : decode (mc mX10_racked) 54 = .ok (.bipush (-11), 2) := by decide +kernel
theorem dX10_racked_56 : decode (mc mX10_racked) 56 = .ok (.ireturn, 1) := by decide +kernel
theorem dX10_racked_57 : decode (mc mX10_racked) 57 = .ok (.aload 4, 2) := by decide +kernel
theorem dX10_racked_59 : decode (mc mX10_racked) 59 = .ok (.iload_n 2, 1) := by decide +kernel
theorem dX10_racked_60 : decode (mc mX10_racked) 60 = .ok (.invokevirtual 318, 3) := by decide +kernel
theorem dX10_racked_63 : decode (mc mX10_racked) 63 = .ok (.ifCond .eq 6, 3) := by decide +kernel
theorem dX10_racked_66 : decode (mc mX10_racked) 66 = .ok (.bipush (-13), 2) := by decide +kernel
theorem dX10_racked_68 : decode (mc mX10_racked) 68 = .ok (.ireturn, 1) := by decide +kernel
theorem dX10_racked_69 : decode (mc mX10_racked) 69 = .ok (.aload 4, 2) := by decide +kernel
theorem dX10_racked_71 : decode (mc mX10_racked) 71 = .ok (.getfield 321, 3) := by decide +kernel
theorem dX10_racked_74 : decode (mc mX10_racked) 74 = .ok (.iload_n 2, 1) := by decide +kernel
theorem dX10_racked_75 : decode (mc mX10_racked) 75 = .ok (.baload, 1) := by decide +kernel
theorem dX10_racked_76 : decode (mc mX10_racked) 76 = .ok (.ifCond .eq 17, 3) := by decide +kernel
theorem dX10_racked_79 : decode (mc mX10_racked) 79 = .ok (.aload 4, 2) := by decide +kernel
theorem dX10_racked_81 : decode (mc mX10_racked) 81 = .ok (.getfield 329, 3) := by decide +kernel
theorem dX10_racked_84 : decode (mc mX10_racked) 84 = .ok (.iload_n 2, 1) := by decide +kernel
theorem dX10_racked_85 : decode (mc mX10_racked) 85 = .ok (.aaload, 1) := by decide +kernel
theorem dX10_racked_86 : decode (mc mX10_racked) 86 = .ok (.iload_n 3, 1) := by decide +kernel
theorem dX10_racked_87 : decode (mc mX10_racked) 87 = .ok (.invokevirtual 157, 3) := by decide +kernel
theorem dX10_racked_90 : decode (mc mX10_racked) 90 = .ok (.goto 5, 3) := by decide +kernel
theorem dX10_racked_93 : decode (mc mX10_racked) 93 = .ok (.bipush (-9), 2) := by decide +kernel
theorem dX10_racked_95 : decode (mc mX10_racked) 95 = .ok (.ireturn, 1) := by decide +kernel
theorem dX10_like_0 : decode (mc mX10_like) 0 = .ok (.iload_n 1, 1) := by decide +kernel
theorem dX10_like_1 : decode (mc mX10_like) 1 = .ok (.invokestatic 311, 3) := by decide +kernel
theorem dX10_like_4 : decode (mc mX10_like) 4 = .ok (.ifCond .ne 10, 3) := by decide +kernel
theorem dX10_like_7 : decode (mc mX10_like) 7 = .ok (.iload_n 2, 1) := by decide +kernel
theorem dX10_like_8 : decode (mc mX10_like) 8 = .ok (.invokestatic 311, 3) := by decide +kernel
theorem dX10_like_11 : decode (mc mX10_like) 11 = .ok (.ifCond .eq 9, 3) := by decide +kernel
theorem dX10_like_14 : decode (mc mX10_like) 14 = .ok (.aload_n 0, 1) := by decide +kernel
theorem dX10_like_15 : decode (mc mX10_like) 15 = .ok (.iconst (-1), 1) := by decide +kernel
theorem dX10_like_16 : decode (mc mX10_like) 16 = .ok (.invokevirtual 92, 3) := by decide +kernel
theorem dX10_like_19 : decode (mc mX10_like) 19 = .ok (.ireturn, 1) := by decide +kernel
theorem dX10_like_20 : decode (mc mX10_like) 20 = .ok (.aload_n 0, 1) := by decide +kernel
theorem dX10_like_21 : decode (mc mX10_like) 21 = .ok (.getfield 82, 3) := by decide +kernel
theorem dX10_like_24 : decode (mc mX10_like) 24 = .ok (.iload_n 2, 1) := by decide +kernel
theorem dX10_like_25 : decode (mc mX10_like) 25 = .ok (.aaload, 1) := by decide +kernel
theorem dX10_like_26 : decode (mc mX10_like) 26 = .ok (.getfield 317, 3) := by decide +kernel
theorem dX10_like_29 : decode (mc mX10_like) 29 = .ok (.ifCond .ge 6, 3) := by decide +kernel
theorem dX10_like_32 : decode (mc mX10_like) 32 = .ok (.bipush (-11), 2) := by decide +kernel
theorem dX10_like_34 : decode (mc mX10_like) 34 = .ok (.ireturn, 1) := by decide +kernel
theorem dX10_like_35 : decode (mc mX10_like) 35 = .ok (.aload_n 0, 1) := by decide +kernel
theorem dX10_like_36 : decode (mc mX10_like) 36 = .ok (.getfield 82, 3) := by decide +kernel
theorem dX10_like_39 : decode (mc mX10_like) 39 = .ok (.iload_n 1, 1) := by decide +kernel
theorem dX10_like_40 : decode (mc mX10_like) 40 = .ok (.aaload, 1) := by decide +kernel
theorem dX10_like_41 : decode (mc mX10_like) 41 = .ok (.aload_n 0, 1) := by decide +kernel
theorem dX10_like_42 : decode (mc mX10_like) 42 = .ok (.getfield 82, 3) := by decide +kernel
theorem dX10_like_45 : decode (mc mX10_like) 45 = .ok (.iload_n 2, 1) := by decide +kernel
theorem dX10_like_46 : decode (mc mX10_like) 46 = .ok (.aaload, 1) := by decide +kernel
theorem dX10_like_47 : decode (mc mX10_like) 47 = .ok (.invokevirtual 335, 3) := by decide +kernel
theorem dX10_like_50 : decode (mc mX10_like) 50 = .ok (.aload_n 0, 1) := by decide +kernel
theorem dX10_like_51 : decode (mc mX10_like) 51 = .ok (.getfield 82, 3) := by decide +kernel
theorem dX10_like_54 : decode (mc mX10_like) 54 = .ok (.iload_n 1, 1) := by decide +kernel
theorem dX10_like_55 : decode (mc mX10_like) 55 = .ok (.aaload, 1) := by decide +kernel
theorem dX10_like_56 : decode (mc mX10_like) 56 = .ok (.getfield 317, 3) := by decide +kernel
theorem dX10_like_59 : decode (mc mX10_like) 59 = .ok (.ireturn, 1) := by decide +kernel
theorem dX10_image_0 : decode (mc mX10_image) 0 = .ok (.aload_n 0, 1) := by decide +kernel
theorem dX10_image_1 : decode (mc mX10_image) 1 = .ok (.getfield 19, 3) := by decide +kernel
theorem dX10_image_4 : decode (mc mX10_image) 4 = .ok (.aload_n 0, 1) := by decide +kernel
theorem dX10_image_5 : decode (mc mX10_image) 5 = .ok (.getfield 10, 3) := by decide +kernel
theorem dX10_image_8 : decode (mc mX10_image) 8 = .ok (.invokevirtual 103, 3) := by decide +kernel
theorem dX10_image_11 : decode (mc mX10_image) 11 = .ok (.aload_n 0, 1) := by decide +kernel
theorem dX10_image_12 : decode (mc mX10_image) 12 = .ok (.iconst 1, 1) := by decide +kernel
theorem dX10_image_13 : decode (mc mX10_image) 13 = .ok (.putfield 22, 3) := by decide +kernel
theorem dX10_image_16 : decode (mc mX10_image) 16 = .ok (.aload_n 0, 1) := by decide +kernel
theorem dX10_image_17 : decode (mc mX10_image) 17 = .ok (.getfield 10, 3) := by decide +kernel
theorem dX10_image_20 : decode (mc mX10_image) 20 = .ok (.getfield 223, 3) := by decide +kernel
theorem dX10_image_23 : decode (mc mX10_image) 23 = .ok (.ireturn, 1) := by decide +kernel
theorem dX10_on_0 : decode (mc mX10_on) 0 = .ok (.aload_n 0, 1) := by decide +kernel
theorem dX10_on_1 : decode (mc mX10_on) 1 = .ok (.getfield 22, 3) := by decide +kernel
theorem dX10_on_4 : decode (mc mX10_on) 4 = .ok (.ifCond .ne 10, 3) := by decide +kernel
theorem dX10_on_7 : decode (mc mX10_on) 7 = .ok (.aload_n 0, 1) := by decide +kernel
theorem dX10_on_8 : decode (mc mX10_on) 8 = .ok (.bipush (-3), 2) := by decide +kernel
theorem dX10_on_10 : decode (mc mX10_on) 10 = .ok (.invokevirtual 92, 3) := by decide +kernel
theorem dX10_on_13 : decode (mc mX10_on) 13 = .ok (.ireturn, 1) := by decide +kernel
theorem dX10_on_14 : decode (mc mX10_on) 14 = .ok (.aload_n 0, 1) := by decide +kernel
theorem dX10_on_15 : decode (mc mX10_on) 15 = .ok (.getfield 10, 3) := by decide +kernel
theorem dX10_on_18 : decode (mc mX10_on) 18 = .ok (.aload_n 0, 1) := by decide +kernel
theorem dX10_on_19 : decode (mc mX10_on) 19 = .ok (.getfield 19, 3) := by decide +kernel
theorem dX10_on_22 : decode (mc mX10_on) 22 = .ok (.invokevirtual 103, 3) := by decide +kernel
theorem dX10_on_25 : decode (mc mX10_on) 25 = .ok (.aload_n 0, 1) := by decide +kernel
theorem dX10_on_26 : decode (mc mX10_on) 26 = .ok (.getfield 10, 3) := by decide +kernel
theorem dX10_on_29 : decode (mc mX10_on) 29 = .ok (.getfield 223, 3) := by decide +kernel
theorem dX10_on_32 : decode (mc mX10_on) 32 = .ok (.ireturn, 1) := by decide +kernel
theorem dX10_count_0 : decode (mc mX10_count) 0 = .ok (.iload_n 1, 1) := by decide +kernel
theorem dX10_count_1 : decode (mc mX10_count) 1 = .ok (.bipush 11, 2) := by decide +kernel
theorem dX10_count_3 : decode (mc mX10_count) 3 = .ok (.if_icmp .lt 19, 3) := by decide +kernel
theorem dX10_count_6 : decode (mc mX10_count) 6 = .ok (.iload_n 1, 1) := by decide +kernel
theorem dX10_count_7 : decode (mc mX10_count) 7 = .ok (.bipush 16, 2) := by decide +kernel
theorem dX10_count_9 : decode (mc mX10_count) 9 = .ok (.if_icmp .gt 13, 3) := by decide +kernel
theorem dX10_count_12 : decode (mc mX10_count) 12 = .ok (.aload_n 0, 1) := by decide +kernel
theorem dX10_count_13 : decode (mc mX10_count) 13 = .ok (.getfield 86, 3) := by decide +kernel
theorem dX10_count_16 : decode (mc mX10_count) 16 = .ok (.iload_n 1, 1) := by decide +kernel
theorem dX10_count_17 : decode (mc mX10_count) 17 = .ok (.bipush 10, 2) := by decide +kernel
theorem dX10_count_19 : decode (mc mX10_count) 19 = .ok (.isub, 1) := by decide +kernel
theorem dX10_count_20 : decode (mc mX10_count) 20 = .ok (.iaload, 1) := by decide +kernel
theorem dX10_count_21 : decode (mc mX10_count) 21 = .ok (.ireturn, 1) := by decide +kernel
theorem dX10_count_22 : decode (mc mX10_count) 22 = .ok (.iload_n 1, 1) := by decide +kernel
theorem dX10_count_23 : decode (mc mX10_count) 23 = .ok (.tableswitch 85 0 5 #[37, 45, 53, 61, 69, 77], 37) := by decide +kernel
theorem dX10_count_60 : decode (mc mX10_count) 60 = .ok (.aload_n 0, 1) := by decide +kernel
theorem dX10_count_61 : decode (mc mX10_count) 61 = .ok (.getfield 10, 3) := by decide +kernel
theorem dX10_count_64 : decode (mc mX10_count) 64 = .ok (.getfield 223, 3) := by decide +kernel
theorem dX10_count_67 : decode (mc mX10_count) 67 = .ok (.ireturn, 1) := by decide +kernel
theorem dX10_count_68 : decode (mc mX10_count) 68 = .ok (.aload_n 0, 1) := by decide +kernel
theorem dX10_count_69 : decode (mc mX10_count) 69 = .ok (.getfield 10, 3) := by decide +kernel
theorem dX10_count_72 : decode (mc mX10_count) 72 = .ok (.getfield 160, 3) := by decide +kernel
theorem dX10_count_75 : decode (mc mX10_count) 75 = .ok (.ireturn, 1) := by decide +kernel
theorem dX10_count_76 : decode (mc mX10_count) 76 = .ok (.aload_n 0, 1) := by decide +kernel
theorem dX10_count_77 : decode (mc mX10_count) 77 = .ok (.getfield 10, 3) := by decide +kernel
theorem dX10_count_80 : decode (mc mX10_count) 80 = .ok (.getfield 141, 3) := by decide +kernel
theorem dX10_count_83 : decode (mc mX10_count) 83 = .ok (.ireturn, 1) := by decide +kernel
theorem dX10_count_84 : decode (mc mX10_count) 84 = .ok (.aload_n 0, 1) := by decide +kernel
theorem dX10_count_85 : decode (mc mX10_count) 85 = .ok (.getfield 10, 3) := by decide +kernel
theorem dX10_count_88 : decode (mc mX10_count) 88 = .ok (.getfield 249, 3) := by decide +kernel
theorem dX10_count_91 : decode (mc mX10_count) 91 = .ok (.ireturn, 1) := by decide +kernel
theorem dX10_count_92 : decode (mc mX10_count) 92 = .ok (.aload_n 0, 1) := by decide +kernel
theorem dX10_count_93 : decode (mc mX10_count) 93 = .ok (.getfield 29, 3) := by decide +kernel
theorem dX10_count_96 : decode (mc mX10_count) 96 = .ok (.getfield 96, 3) := by decide +kernel
theorem dX10_count_99 : decode (mc mX10_count) 99 = .ok (.ireturn, 1) := by decide +kernel
theorem dX10_count_100 : decode (mc mX10_count) 100 = .ok (.aload_n 0, 1) := by decide +kernel
theorem dX10_count_101 : decode (mc mX10_count) 101 = .ok (.getfield 10, 3) := by decide +kernel
theorem dX10_count_104 : decode (mc mX10_count) 104 = .ok (.invokevirtual 235, 3) := by decide +kernel
theorem dX10_count_107 : decode (mc mX10_count) 107 = .ok (.ireturn, 1) := by decide +kernel
theorem dX10_count_108 : decode (mc mX10_count) 108 = .ok (.bipush (-9), 2) := by decide +kernel
theorem dX10_count_110 : decode (mc mX10_count) 110 = .ok (.ireturn, 1) := by decide +kernel
theorem dX10_hour_0 : decode (mc mX10_hour) 0 = .ok (.aload_n 0, 1) := by decide +kernel
theorem dX10_hour_1 : decode (mc mX10_hour) 1 = .ok (.getfield 10, 3) := by decide +kernel
theorem dX10_hour_4 : decode (mc mX10_hour) 4 = .ok (.iload_n 1, 1) := by decide +kernel
theorem dX10_hour_5 : decode (mc mX10_hour) 5 = .ok (.invokevirtual 167, 3) := by decide +kernel
theorem dX10_hour_8 : decode (mc mX10_hour) 8 = .ok (.ifCond .eq 9, 3) := by decide +kernel
theorem dX10_hour_11 : decode (mc mX10_hour) 11 = .ok (.aload_n 0, 1) := by decide +kernel
theorem dX10_hour_12 : decode (mc mX10_hour) 12 = .ok (.iconst (-1), 1) := by decide +kernel
theorem dX10_hour_13 : decode (mc mX10_hour) 13 = .ok (.invokevirtual 92, 3) := by decide +kernel
theorem dX10_hour_16 : decode (mc mX10_hour) 16 = .ok (.ireturn, 1) := by decide +kernel
theorem dX10_hour_17 : decode (mc mX10_hour) 17 = .ok (.iload_n 2, 1) := by decide +kernel
theorem dX10_hour_18 : decode (mc mX10_hour) 18 = .ok (.tableswitch 56 0 2 #[26, 36, 46], 26) := by decide +kernel
theorem dX10_hour_44 : decode (mc mX10_hour) 44 = .ok (.aload_n 0, 1) := by decide +kernel
theorem dX10_hour_45 : decode (mc mX10_hour) 45 = .ok (.getfield 10, 3) := by decide +kernel
theorem dX10_hour_48 : decode (mc mX10_hour) 48 = .ok (.getfield 176, 3) := by decide +kernel
theorem dX10_hour_51 : decode (mc mX10_hour) 51 = .ok (.iload_n 1, 1) := by decide +kernel
theorem dX10_hour_52 : decode (mc mX10_hour) 52 = .ok (.iaload, 1) := by decide +kernel
theorem dX10_hour_53 : decode (mc mX10_hour) 53 = .ok (.ireturn, 1) := by decide +kernel
theorem dX10_hour_54 : decode (mc mX10_hour) 54 = .ok (.aload_n 0, 1) := by decide +kernel
theorem dX10_hour_55 : decode (mc mX10_hour) 55 = .ok (.getfield 10, 3) := by decide +kernel
theorem dX10_hour_58 : decode (mc mX10_hour) 58 = .ok (.getfield 179, 3) := by decide +kernel
theorem dX10_hour_61 : decode (mc mX10_hour) 61 = .ok (.iload_n 1, 1) := by decide +kernel
theorem dX10_hour_62 : decode (mc mX10_hour) 62 = .ok (.iaload, 1) := by decide +kernel
theorem dX10_hour_63 : decode (mc mX10_hour) 63 = .ok (.ireturn, 1) := by decide +kernel
theorem dX10_hour_64 : decode (mc mX10_hour) 64 = .ok (.aload_n 0, 1) := by decide +kernel
theorem dX10_hour_65 : decode (mc mX10_hour) 65 = .ok (.getfield 10, 3) := by decide +kernel
theorem dX10_hour_68 : decode (mc mX10_hour) 68 = .ok (.getfield 246, 3) := by decide +kernel
theorem dX10_hour_71 : decode (mc mX10_hour) 71 = .ok (.iload_n 1, 1) := by decide +kernel
theorem dX10_hour_72 : decode (mc mX10_hour) 72 = .ok (.iaload, 1) := by decide +kernel
theorem dX10_hour_73 : decode (mc mX10_hour) 73 = .ok (.ireturn, 1) := by decide +kernel
theorem dX10_hour_74 : decode (mc mX10_hour) 74 = .ok (.aload_n 0, 1) := by decide +kernel
theorem dX10_hour_75 : decode (mc mX10_hour) 75 = .ok (.bipush (-2), 2) := by decide +kernel
theorem dX10_hour_77 : decode (mc mX10_hour) 77 = .ok (.invokevirtual 92, 3) := by decide +kernel
theorem dX10_hour_80 : decode (mc mX10_hour) 80 = .ok (.ireturn, 1) := by decide +kernel
theorem dX10_refuse_0 : decode (mc mX10_refuse) 0 = .ok (.iload_n 1, 1) := by decide +kernel
theorem dX10_refuse_1 : decode (mc mX10_refuse) 1 = .ok (.ifCond .ge 20, 3) := by decide +kernel
theorem dX10_refuse_4 : decode (mc mX10_refuse) 4 = .ok (.iload_n 1, 1) := by decide +kernel
theorem dX10_refuse_5 : decode (mc mX10_refuse) 5 = .ok (.bipush (-6), 2) := by decide +kernel
theorem dX10_refuse_7 : decode (mc mX10_refuse) 7 = .ok (.if_icmp .lt 14, 3) := by decide +kernel
theorem dX10_refuse_10 : decode (mc mX10_refuse) 10 = .ok (.aload_n 0, 1) := by decide +kernel
theorem dX10_refuse_11 : decode (mc mX10_refuse) 11 = .ok (.getfield 86, 3) := by decide +kernel
theorem dX10_refuse_14 : decode (mc mX10_refuse) 14 = .ok (.iload_n 1, 1) := by decide +kernel
theorem dX10_refuse_15 : decode (mc mX10_refuse) 15 = .ok (.ineg, 1) := by decide +kernel
theorem dX10_refuse_16 : decode (mc mX10_refuse) 16 = .ok (.dup2, 1) := by decide +kernel
theorem dX10_refuse_17 : decode (mc mX10_refuse) 17 = .ok (.iaload, 1) := by decide +kernel
theorem dX10_refuse_18 : decode (mc mX10_refuse) 18 = .ok (.iconst 1, 1) := by decide +kernel
theorem dX10_refuse_19 : decode (mc mX10_refuse) 19 = .ok (.iadd, 1) := by decide +kernel
theorem dX10_refuse_20 : decode (mc mX10_refuse) 20 = .ok (.iastore, 1) := by decide +kernel
theorem dX10_refuse_21 : decode (mc mX10_refuse) 21 = .ok (.iload_n 1, 1) := by decide +kernel
theorem dX10_refuse_22 : decode (mc mX10_refuse) 22 = .ok (.ireturn, 1) := by decide +kernel
theorem dX10_refuseLong_0 : decode (mc mX10_refuseLong) 0 = .ok (.ldc2_w 338, 3) := by decide +kernel
theorem dX10_refuseLong_3 : decode (mc mX10_refuseLong) 3 = .ok (.aload_n 0, 1) := by decide +kernel
theorem dX10_refuseLong_4 : decode (mc mX10_refuseLong) 4 = .ok (.iload_n 1, 1) := by decide +kernel
theorem dX10_refuseLong_5 : decode (mc mX10_refuseLong) 5 = .ok (.invokevirtual 92, 3) := by decide +kernel
theorem dX10_refuseLong_8 : decode (mc mX10_refuseLong) 8 = .ok (.i2l, 1) := by decide +kernel
theorem dX10_refuseLong_9 : decode (mc mX10_refuseLong) 9 = .ok (.lsub, 1) := by decide +kernel
theorem dX10_refuseLong_10 : decode (mc mX10_refuseLong) 10 = .ok (.lreturn, 1) := by decide +kernel
theorem dX10_counted_0 : decode (mc mX10_counted) 0 = .ok (.iload_n 1, 1) := by decide +kernel
theorem dX10_counted_1 : decode (mc mX10_counted) 1 = .ok (.ifCond .ge 11, 3) := by decide +kernel
theorem dX10_counted_4 : decode (mc mX10_counted) 4 = .ok (.aload_n 0, 1) := by decide +kernel
theorem dX10_counted_5 : decode (mc mX10_counted) 5 = .ok (.iload_n 1, 1) := by decide +kernel
theorem dX10_counted_6 : decode (mc mX10_counted) 6 = .ok (.invokevirtual 92, 3) := by decide +kernel
theorem dX10_counted_9 : decode (mc mX10_counted) 9 = .ok (.goto 4, 3) := by decide +kernel
theorem dX10_counted_12 : decode (mc mX10_counted) 12 = .ok (.iload_n 1, 1) := by decide +kernel
theorem dX10_counted_13 : decode (mc mX10_counted) 13 = .ok (.ireturn, 1) := by decide +kernel
theorem dX10_noList_0 : decode (mc mX10_noList) 0 = .ok (.iload_n 0, 1) := by decide +kernel
theorem dX10_noList_1 : decode (mc mX10_noList) 1 = .ok (.ifCond .lt 8, 3) := by decide +kernel
theorem dX10_noList_4 : decode (mc mX10_noList) 4 = .ok (.iload_n 0, 1) := by decide +kernel
theorem dX10_noList_5 : decode (mc mX10_noList) 5 = .ok (.iconst 4, 1) := by decide +kernel
theorem dX10_noList_6 : decode (mc mX10_noList) 6 = .ok (.if_icmp .lt 7, 3) := by decide +kernel
theorem dX10_noList_9 : decode (mc mX10_noList) 9 = .ok (.iconst 1, 1) := by decide +kernel
theorem dX10_noList_10 : decode (mc mX10_noList) 10 = .ok (.goto 4, 3) := by decide +kernel
theorem dX10_noList_13 : decode (mc mX10_noList) 13 = .ok (.iconst 0, 1) := by decide +kernel
theorem dX10_noList_14 : decode (mc mX10_noList) 14 = .ok (.ireturn, 1) := by decide +kernel
theorem dX10_noRack_0 : decode (mc mX10_noRack) 0 = .ok (.iload_n 0, 1) := by decide +kernel
theorem dX10_noRack_1 : decode (mc mX10_noRack) 1 = .ok (.ifCond .lt 8, 3) := by decide +kernel
theorem dX10_noRack_4 : decode (mc mX10_noRack) 4 = .ok (.iload_n 0, 1) := by decide +kernel
theorem dX10_noRack_5 : decode (mc mX10_noRack) 5 = .ok (.iconst 3, 1) := by decide +kernel
theorem dX10_noRack_6 : decode (mc mX10_noRack) 6 = .ok (.if_icmp .lt 7, 3) := by decide +kernel
theorem dX10_noRack_9 : decode (mc mX10_noRack) 9 = .ok (.iconst 1, 1) := by decide +kernel
theorem dX10_noRack_10 : decode (mc mX10_noRack) 10 = .ok (.goto 4, 3) := by decide +kernel
theorem dX10_noRack_13 : decode (mc mX10_noRack) 13 = .ok (.iconst 0, 1) := by decide +kernel
theorem dX10_noRack_14 : decode (mc mX10_noRack) 14 = .ok (.ireturn, 1) := by decide +kernel
theorem dX10_refusalOfSet_0 : decode (mc mX10_refusalOfSet) 0 = .ok (.iload_n 1, 1) := by decide +kernel
theorem dX10_refusalOfSet_1 : decode (mc mX10_refusalOfSet) 1 = .ok (.ifCond .ge 6, 3) := by decide +kernel
theorem dX10_refusalOfSet_4 : decode (mc mX10_refusalOfSet) 4 = .ok (.bipush (-4), 2) := by decide +kernel
theorem dX10_refusalOfSet_6 : decode (mc mX10_refusalOfSet) 6 = .ok (.ireturn, 1) := by decide +kernel
theorem dX10_refusalOfSet_7 : decode (mc mX10_refusalOfSet) 7 = .ok (.iload_n 1, 1) := by decide +kernel
theorem dX10_refusalOfSet_8 : decode (mc mX10_refusalOfSet) 8 = .ok (.iconst 1, 1) := by decide +kernel
theorem dX10_refusalOfSet_9 : decode (mc mX10_refusalOfSet) 9 = .ok (.aload_n 0, 1) := by decide +kernel
theorem dX10_refusalOfSet_10 : decode (mc mX10_refusalOfSet) 10 = .ok (.getfield 10, 3) := by decide +kernel
theorem dX10_refusalOfSet_13 : decode (mc mX10_refusalOfSet) 13 = .ok (.getfield 223, 3) := by decide +kernel
theorem dX10_refusalOfSet_16 : decode (mc mX10_refusalOfSet) 16 = .ok (.ishl, 1) := by decide +kernel
theorem dX10_refusalOfSet_17 : decode (mc mX10_refusalOfSet) 17 = .ok (.if_icmp .lt 8, 3) := by decide +kernel
theorem dX10_refusalOfSet_20 : decode (mc mX10_refusalOfSet) 20 = .ok (.bipush (-6), 2) := by decide +kernel
theorem dX10_refusalOfSet_22 : decode (mc mX10_refusalOfSet) 22 = .ok (.goto 4, 3) := by decide +kernel
theorem dX10_refusalOfSet_25 : decode (mc mX10_refusalOfSet) 25 = .ok (.iconst 0, 1) := by decide +kernel
theorem dX10_refusalOfSet_26 : decode (mc mX10_refusalOfSet) 26 = .ok (.ireturn, 1) := by decide +kernel
theorem dX10_solveAsIs_0 : decode (mc mX10_solveAsIs) 0 = .ok (.aload_n 0, 1) := by decide +kernel
theorem dX10_solveAsIs_1 : decode (mc mX10_solveAsIs) 1 = .ok (.getfield 52, 3) := by decide +kernel
theorem dX10_solveAsIs_4 : decode (mc mX10_solveAsIs) 4 = .ok (.invokevirtual 203, 3) := by decide +kernel
theorem dX10_solveAsIs_7 : decode (mc mX10_solveAsIs) 7 = .ok (.aload_n 0, 1) := by decide +kernel
theorem dX10_solveAsIs_8 : decode (mc mX10_solveAsIs) 8 = .ok (.getfield 52, 3) := by decide +kernel
theorem dX10_solveAsIs_11 : decode (mc mX10_solveAsIs) 11 = .ok (.invokevirtual 207, 3) := by decide +kernel
theorem dX10_solveAsIs_14 : decode (mc mX10_solveAsIs) 14 = .ok (.ireturn, 1) := by decide +kernel
theorem dX10_difference_0 : decode (mc mX10_difference) 0 = .ok (.iload_n 0, 1) := by decide +kernel
theorem dX10_difference_1 : decode (mc mX10_difference) 1 = .ok (.ifCond .lt 7, 3) := by decide +kernel
theorem dX10_difference_4 : decode (mc mX10_difference) 4 = .ok (.iload_n 1, 1) := by decide +kernel
theorem dX10_difference_5 : decode (mc mX10_difference) 5 = .ok (.ifCond .ge 9, 3) := by decide +kernel
theorem dX10_difference_8 : decode (mc mX10_difference) 8 = .ok (.ldc_w 340, 3) := by decide +kernel
theorem dX10_difference_11 : decode (mc mX10_difference) 11 = .ok (.goto 6, 3) := by decide +kernel
theorem dX10_difference_14 : decode (mc mX10_difference) 14 = .ok (.iload_n 0, 1) := by decide +kernel
theorem dX10_difference_15 : decode (mc mX10_difference) 15 = .ok (.iload_n 1, 1) := by decide +kernel
theorem dX10_difference_16 : decode (mc mX10_difference) 16 = .ok (.isub, 1) := by decide +kernel
theorem dX10_difference_17 : decode (mc mX10_difference) 17 = .ok (.ireturn, 1) := by decide +kernel
theorem dX10_canKeep_0 : decode (mc mX10_canKeep) 0 = .ok (.aload_n 0, 1) := by decide +kernel
theorem dX10_canKeep_1 : decode (mc mX10_canKeep) 1 = .ok (.getfield 52, 3) := by decide +kernel
theorem dX10_canKeep_4 : decode (mc mX10_canKeep) 4 = .ok (.invokevirtual 203, 3) := by decide +kernel
theorem dX10_canKeep_7 : decode (mc mX10_canKeep) 7 = .ok (.iconst 0, 1) := by decide +kernel
theorem dX10_canKeep_8 : decode (mc mX10_canKeep) 8 = .ok (.istore_n 2, 1) := by decide +kernel
theorem dX10_canKeep_9 : decode (mc mX10_canKeep) 9 = .ok (.iload_n 2, 1) := by decide +kernel
theorem dX10_canKeep_10 : decode (mc mX10_canKeep) 10 = .ok (.aload_n 0, 1) := by decide +kernel
theorem dX10_canKeep_11 : decode (mc mX10_canKeep) 11 = .ok (.getfield 10, 3) := by decide +kernel
theorem dX10_canKeep_14 : decode (mc mX10_canKeep) 14 = .ok (.getfield 160, 3) := by decide +kernel
theorem dX10_canKeep_17 : decode (mc mX10_canKeep) 17 = .ok (.if_icmp .ge 22, 3) := by decide +kernel
theorem dX10_canKeep_20 : decode (mc mX10_canKeep) 20 = .ok (.aload_n 0, 1) := by decide +kernel
theorem dX10_canKeep_21 : decode (mc mX10_canKeep) 21 = .ok (.getfield 52, 3) := by decide +kernel
theorem dX10_canKeep_24 : decode (mc mX10_canKeep) 24 = .ok (.getfield 341, 3) := by decide +kernel
theorem dX10_canKeep_27 : decode (mc mX10_canKeep) 27 = .ok (.iload_n 2, 1) := by decide +kernel
theorem dX10_canKeep_28 : decode (mc mX10_canKeep) 28 = .ok (.dup2, 1) := by decide +kernel
theorem dX10_canKeep_29 : decode (mc mX10_canKeep) 29 = .ok (.iaload, 1) := by decide +kernel
theorem dX10_canKeep_30 : decode (mc mX10_canKeep) 30 = .ok (.iload_n 1, 1) := by decide +kernel
theorem dX10_canKeep_31 : decode (mc mX10_canKeep) 31 = .ok (.iadd, 1) := by decide +kernel
theorem dX10_canKeep_32 : decode (mc mX10_canKeep) 32 = .ok (.iastore, 1) := by decide +kernel
theorem dX10_canKeep_33 : decode (mc mX10_canKeep) 33 = .ok (.iinc 2 1, 3) := by decide +kernel
theorem dX10_canKeep_36 : decode (mc mX10_canKeep) 36 = .ok (.goto (-27), 3) := by decide +kernel
theorem dX10_canKeep_39 : decode (mc mX10_canKeep) 39 = .ok (.aload_n 0, 1) := by decide +kernel
theorem dX10_canKeep_40 : decode (mc mX10_canKeep) 40 = .ok (.getfield 52, 3) := by decide +kernel
theorem dX10_canKeep_43 : decode (mc mX10_canKeep) 43 = .ok (.invokevirtual 207, 3) := by decide +kernel
theorem dX10_canKeep_46 : decode (mc mX10_canKeep) 46 = .ok (.ifCond .lt 7, 3) := by decide +kernel
theorem dX10_canKeep_49 : decode (mc mX10_canKeep) 49 = .ok (.iconst 1, 1) := by decide +kernel
theorem dX10_canKeep_50 : decode (mc mX10_canKeep) 50 = .ok (.goto 4, 3) := by decide +kernel
theorem dX10_canKeep_53 : decode (mc mX10_canKeep) 53 = .ok (.iconst 0, 1) := by decide +kernel
theorem dX10_canKeep_54 : decode (mc mX10_canKeep) 54 = .ok (.ireturn, 1) := by decide +kernel
theorem dX10_leansOfBest_0 : decode (mc mX10_leansOfBest) 0 = .ok (.aload_n 0, 1) := by decide +kernel
theorem dX10_leansOfBest_1 : decode (mc mX10_leansOfBest) 1 = .ok (.getfield 45, 3) := by decide +kernel
theorem dX10_leansOfBest_4 : decode (mc mX10_leansOfBest) 4 = .ok (.invokevirtual 194, 3) := by decide +kernel
theorem dX10_leansOfBest_7 : decode (mc mX10_leansOfBest) 7 = .ok (.fconst 0, 1) := by decide +kernel
theorem dX10_leansOfBest_8 : decode (mc mX10_leansOfBest) 8 = .ok (.fstore_n 1, 1) := by decide +kernel
theorem dX10_leansOfBest_9 : decode (mc mX10_leansOfBest) 9 = .ok (.iconst 0, 1) := by decide +kernel
theorem dX10_leansOfBest_10 : decode (mc mX10_leansOfBest) 10 = .ok (.istore_n 2, 1) := by decide +kernel
theorem dX10_leansOfBest_11 : decode (mc mX10_leansOfBest) 11 = .ok (.iload_n 2, 1) := by decide +kernel
theorem dX10_leansOfBest_12 : decode (mc mX10_leansOfBest) 12 = .ok (.aload_n 0, 1) := by decide +kernel
theorem dX10_leansOfBest_13 : decode (mc mX10_leansOfBest) 13 = .ok (.getfield 10, 3) := by decide +kernel
theorem dX10_leansOfBest_16 : decode (mc mX10_leansOfBest) 16 = .ok (.getfield 160, 3) := by decide +kernel
theorem dX10_leansOfBest_19 : decode (mc mX10_leansOfBest) 19 = .ok (.if_icmp .ge 33, 3) := by decide +kernel
theorem dX10_leansOfBest_22 : decode (mc mX10_leansOfBest) 22 = .ok (.fload_n 1, 1) := by decide +kernel
theorem dX10_leansOfBest_23 : decode (mc mX10_leansOfBest) 23 = .ok (.aload_n 0, 1) := by decide +kernel
theorem dX10_leansOfBest_24 : decode (mc mX10_leansOfBest) 24 = .ok (.getfield 45, 3) := by decide +kernel
theorem dX10_leansOfBest_27 : decode (mc mX10_leansOfBest) 27 = .ok (.iload_n 2, 1) := by decide +kernel
theorem dX10_leansOfBest_28 : decode (mc mX10_leansOfBest) 28 = .ok (.aload_n 0, 1) := by decide +kernel
theorem dX10_leansOfBest_29 : decode (mc mX10_leansOfBest) 29 = .ok (.getfield 52, 3) := by decide +kernel
theorem dX10_leansOfBest_32 : decode (mc mX10_leansOfBest) 32 = .ok (.iload_n 2, 1) := by decide +kernel
theorem dX10_leansOfBest_33 : decode (mc mX10_leansOfBest) 33 = .ok (.invokevirtual 197, 3) := by decide +kernel
theorem dX10_leansOfBest_36 : decode (mc mX10_leansOfBest) 36 = .ok (.invokevirtual 200, 3) := by decide +kernel
theorem dX10_leansOfBest_39 : decode (mc mX10_leansOfBest) 39 = .ok (.i2f, 1) := by decide +kernel
theorem dX10_leansOfBest_40 : decode (mc mX10_leansOfBest) 40 = .ok (.fadd, 1) := by decide +kernel
theorem dX10_leansOfBest_41 : decode (mc mX10_leansOfBest) 41 = .ok (.ldc_w 342, 3) := by decide +kernel
theorem dX10_leansOfBest_44 : decode (mc mX10_leansOfBest) 44 = .ok (.fmul, 1) := by decide +kernel
theorem dX10_leansOfBest_45 : decode (mc mX10_leansOfBest) 45 = .ok (.fstore_n 1, 1) := by decide +kernel
theorem dX10_leansOfBest_46 : decode (mc mX10_leansOfBest) 46 = .ok (.iinc 2 1, 3) := by decide +kernel
theorem dX10_leansOfBest_49 : decode (mc mX10_leansOfBest) 49 = .ok (.goto (-38), 3) := by decide +kernel
theorem dX10_leansOfBest_52 : decode (mc mX10_leansOfBest) 52 = .ok (.fload_n 1, 1) := by decide +kernel
theorem dX10_leansOfBest_53 : decode (mc mX10_leansOfBest) 53 = .ok (.freturn, 1) := by decide +kernel
theorem dX10_power_0 : decode (mc mX10_power) 0 = .ok (.iconst 1, 1) := by decide +kernel
theorem dX10_power_1 : decode (mc mX10_power) 1 = .ok (.istore_n 2, 1) := by decide +kernel
theorem dX10_power_2 : decode (mc mX10_power) 2 = .ok (.iconst 0, 1) := by decide +kernel
theorem dX10_power_3 : decode (mc mX10_power) 3 = .ok (.istore_n 3, 1) := by decide +kernel
theorem dX10_power_4 : decode (mc mX10_power) 4 = .ok (.iload_n 3, 1) := by decide +kernel
theorem dX10_power_5 : decode (mc mX10_power) 5 = .ok (.iload_n 1, 1) := by decide +kernel
theorem dX10_power_6 : decode (mc mX10_power) 6 = .ok (.if_icmp .ge 13, 3) := by decide +kernel
theorem dX10_power_9 : decode (mc mX10_power) 9 = .ok (.iload_n 2, 1) := by decide +kernel
theorem dX10_power_10 : decode (mc mX10_power) 10 = .ok (.iload_n 0, 1) := by decide +kernel
theorem dX10_power_11 : decode (mc mX10_power) 11 = .ok (.imul, 1) := by decide +kernel
theorem dX10_power_12 : decode (mc mX10_power) 12 = .ok (.istore_n 2, 1) := by decide +kernel
theorem dX10_power_13 : decode (mc mX10_power) 13 = .ok (.iinc 3 1, 3) := by decide +kernel
theorem dX10_power_16 : decode (mc mX10_power) 16 = .ok (.goto (-12), 3) := by decide +kernel
theorem dX10_power_19 : decode (mc mX10_power) 19 = .ok (.iload_n 2, 1) := by decide +kernel
theorem dX10_power_20 : decode (mc mX10_power) 20 = .ok (.ireturn, 1) := by decide +kernel
theorem dX10_commonDivisor_0 : decode (mc mX10_commonDivisor) 0 = .ok (.iload_n 0, 1) := by decide +kernel
theorem dX10_commonDivisor_1 : decode (mc mX10_commonDivisor) 1 = .ok (.istore_n 2, 1) := by decide +kernel
theorem dX10_commonDivisor_2 : decode (mc mX10_commonDivisor) 2 = .ok (.iload_n 1, 1) := by decide +kernel
theorem dX10_commonDivisor_3 : decode (mc mX10_commonDivisor) 3 = .ok (.istore_n 3, 1) := by decide +kernel
theorem dX10_commonDivisor_4 : decode (mc mX10_commonDivisor) 4 = .ok (.iconst 0, 1) := by decide +kernel
theorem dX10_commonDivisor_5 : decode (mc mX10_commonDivisor) 5 = .ok (.istore 4, 2) := by decide +kernel
theorem dX10_commonDivisor_7 : decode (mc mX10_commonDivisor) 7 = .ok (.iload 4, 2) := by decide +kernel
theorem dX10_commonDivisor_9 : decode (mc mX10_commonDivisor) 9 = .ok (.bipush 64, 2) := by decide +kernel
theorem dX10_commonDivisor_11 : decode (mc mX10_commonDivisor) 11 = .ok (.if_icmp .ge 23, 3) := by decide +kernel
theorem dX10_commonDivisor_14 : decode (mc mX10_commonDivisor) 14 = .ok (.iload_n 2, 1) := by decide +kernel
theorem dX10_commonDivisor_15 : decode (mc mX10_commonDivisor) 15 = .ok (.ifCond .eq 19, 3) := by decide +kernel
theorem dX10_commonDivisor_18 : decode (mc mX10_commonDivisor) 18 = .ok (.iload_n 3, 1) := by decide +kernel
theorem dX10_commonDivisor_19 : decode (mc mX10_commonDivisor) 19 = .ok (.iload_n 2, 1) := by decide +kernel
theorem dX10_commonDivisor_20 : decode (mc mX10_commonDivisor) 20 = .ok (.irem, 1) := by decide +kernel
theorem dX10_commonDivisor_21 : decode (mc mX10_commonDivisor) 21 = .ok (.istore 5, 2) := by decide +kernel
theorem dX10_commonDivisor_23 : decode (mc mX10_commonDivisor) 23 = .ok (.iload_n 2, 1) := by decide +kernel
theorem dX10_commonDivisor_24 : decode (mc mX10_commonDivisor) 24 = .ok (.istore_n 3, 1) := by decide +kernel
theorem dX10_commonDivisor_25 : decode (mc mX10_commonDivisor) 25 = .ok (.iload 5, 2) := by decide +kernel
theorem dX10_commonDivisor_27 : decode (mc mX10_commonDivisor) 27 = .ok (.istore_n 2, 1) := by decide +kernel
theorem dX10_commonDivisor_28 : decode (mc mX10_commonDivisor) 28 = .ok (.iinc 4 1, 3) := by decide +kernel
theorem dX10_commonDivisor_31 : decode (mc mX10_commonDivisor) 31 = .ok (.goto (-24), 3) := by decide +kernel
theorem dX10_commonDivisor_34 : decode (mc mX10_commonDivisor) 34 = .ok (.iload_n 3, 1) := by decide +kernel
theorem dX10_commonDivisor_35 : decode (mc mX10_commonDivisor) 35 = .ok (.iconst 1, 1) := by decide +kernel
theorem dX10_commonDivisor_36 : decode (mc mX10_commonDivisor) 36 = .ok (.if_icmp .ge 7, 3) := by decide +kernel
theorem dX10_commonDivisor_39 : decode (mc mX10_commonDivisor) 39 = .ok (.iconst 1, 1) := by decide +kernel
theorem dX10_commonDivisor_40 : decode (mc mX10_commonDivisor) 40 = .ok (.goto 4, 3) := by decide +kernel
theorem dX10_commonDivisor_43 : decode (mc mX10_commonDivisor) 43 = .ok (.iload_n 3, 1) := by decide +kernel
theorem dX10_commonDivisor_44 : decode (mc mX10_commonDivisor) 44 = .ok (.ireturn, 1) := by decide +kernel
theorem dX10_productIsOver_0 : decode (mc mX10_productIsOver) 0 = .ok (.lload_n 2, 1) := by decide +kernel
theorem dX10_productIsOver_1 : decode (mc mX10_productIsOver) 1 = .ok (.lconst 0, 1) := by decide +kernel
theorem dX10_productIsOver_2 : decode (mc mX10_productIsOver) 2 = .ok (.lcmp, 1) := by decide +kernel
theorem dX10_productIsOver_3 : decode (mc mX10_productIsOver) 3 = .ok (.ifCond .ne 5, 3) := by decide +kernel
theorem dX10_productIsOver_6 : decode (mc mX10_productIsOver) 6 = .ok (.iconst 0, 1) := by decide +kernel
theorem dX10_productIsOver_7 : decode (mc mX10_productIsOver) 7 = .ok (.ireturn, 1) := by decide +kernel
theorem dX10_productIsOver_8 : decode (mc mX10_productIsOver) 8 = .ok (.lload_n 2, 1) := by decide +kernel
theorem dX10_productIsOver_9 : decode (mc mX10_productIsOver) 9 = .ok (.ldc2_w 343, 3) := by decide +kernel
theorem dX10_productIsOver_12 : decode (mc mX10_productIsOver) 12 = .ok (.lcmp, 1) := by decide +kernel
theorem dX10_productIsOver_13 : decode (mc mX10_productIsOver) 13 = .ok (.ifCond .ne 17, 3) := by decide +kernel
theorem dX10_productIsOver_16 : decode (mc mX10_productIsOver) 16 = .ok (.lload_n 0, 1) := by decide +kernel
theorem dX10_productIsOver_17 : decode (mc mX10_productIsOver) 17 = .ok (.ldc2_w 345, 3) := by decide +kernel
theorem dX10_productIsOver_20 : decode (mc mX10_productIsOver) 20 = .ok (.lcmp, 1) := by decide +kernel
theorem dX10_productIsOver_21 : decode (mc mX10_productIsOver) 21 = .ok (.ifCond .ne 7, 3) := by decide +kernel
theorem dX10_productIsOver_24 : decode (mc mX10_productIsOver) 24 = .ok (.iconst 1, 1) := by decide +kernel
theorem dX10_productIsOver_25 : decode (mc mX10_productIsOver) 25 = .ok (.goto 4, 3) := by decide +kernel
theorem dX10_productIsOver_28 : decode (mc mX10_productIsOver) 28 = .ok (.iconst 0, 1) := by decide +kernel
theorem dX10_productIsOver_29 : decode (mc mX10_productIsOver) 29 = .ok (.ireturn, 1) := by decide +kernel
theorem dX10_productIsOver_30 : decode (mc mX10_productIsOver) 30 = .ok (.lload_n 0, 1) := by decide +kernel
theorem dX10_productIsOver_31 : decode (mc mX10_productIsOver) 31 = .ok (.lload_n 2, 1) := by decide +kernel
theorem dX10_productIsOver_32 : decode (mc mX10_productIsOver) 32 = .ok (.lmul, 1) := by decide +kernel
theorem dX10_productIsOver_33 : decode (mc mX10_productIsOver) 33 = .ok (.lload_n 2, 1) := by decide +kernel
theorem dX10_productIsOver_34 : decode (mc mX10_productIsOver) 34 = .ok (.ldiv, 1) := by decide +kernel
theorem dX10_productIsOver_35 : decode (mc mX10_productIsOver) 35 = .ok (.lload_n 0, 1) := by decide +kernel
theorem dX10_productIsOver_36 : decode (mc mX10_productIsOver) 36 = .ok (.lcmp, 1) := by decide +kernel
theorem dX10_productIsOver_37 : decode (mc mX10_productIsOver) 37 = .ok (.ifCond .eq 7, 3) := by decide +kernel
theorem dX10_productIsOver_40 : decode (mc mX10_productIsOver) 40 = .ok (.iconst 1, 1) := by decide +kernel
theorem dX10_productIsOver_41 : decode (mc mX10_productIsOver) 41 = .ok (.goto 4, 3) := by decide +kernel
theorem dX10_productIsOver_44 : decode (mc mX10_productIsOver) 44 = .ok (.iconst 0, 1) := by decide +kernel
theorem dX10_productIsOver_45 : decode (mc mX10_productIsOver) 45 = .ok (.ireturn, 1) := by decide +kernel
theorem dX10_bitsOf_0 : decode (mc mX10_bitsOf) 0 = .ok (.fload_n 0, 1) := by decide +kernel
theorem dX10_bitsOf_1 : decode (mc mX10_bitsOf) 1 = .ok (.fconst 0, 1) := by decide +kernel
theorem dX10_bitsOf_2 : decode (mc mX10_bitsOf) 2 = .ok (.fcmp .l, 1) := by decide +kernel
theorem dX10_bitsOf_3 : decode (mc mX10_bitsOf) 3 = .ok (.ifCond .gt 5, 3) := by decide +kernel
theorem dX10_bitsOf_6 : decode (mc mX10_bitsOf) 6 = .ok (.iconst 0, 1) := by decide +kernel
theorem dX10_bitsOf_7 : decode (mc mX10_bitsOf) 7 = .ok (.ireturn, 1) := by decide +kernel
theorem dX10_bitsOf_8 : decode (mc mX10_bitsOf) 8 = .ok (.bipush 127, 2) := by decide +kernel
theorem dX10_bitsOf_10 : decode (mc mX10_bitsOf) 10 = .ok (.istore_n 1, 1) := by decide +kernel
theorem dX10_bitsOf_11 : decode (mc mX10_bitsOf) 11 = .ok (.fload_n 0, 1) := by decide +kernel
theorem dX10_bitsOf_12 : decode (mc mX10_bitsOf) 12 = .ok (.fstore_n 2, 1) := by decide +kernel
theorem dX10_bitsOf_13 : decode (mc mX10_bitsOf) 13 = .ok (.iconst 0, 1) := by decide +kernel
theorem dX10_bitsOf_14 : decode (mc mX10_bitsOf) 14 = .ok (.istore_n 3, 1) := by decide +kernel
theorem dX10_bitsOf_15 : decode (mc mX10_bitsOf) 15 = .ok (.iload_n 3, 1) := by decide +kernel
theorem dX10_bitsOf_16 : decode (mc mX10_bitsOf) 16 = .ok (.bipush 127, 2) := by decide +kernel
theorem dX10_bitsOf_18 : decode (mc mX10_bitsOf) 18 = .ok (.if_icmp .ge 24, 3) := by decide +kernel
theorem dX10_bitsOf_21 : decode (mc mX10_bitsOf) 21 = .ok (.fload_n 2, 1) := by decide +kernel
theorem dX10_bitsOf_22 : decode (mc mX10_bitsOf) 22 = .ok (.fconst 2, 1) := by decide +kernel
theorem dX10_bitsOf_23 : decode (mc mX10_bitsOf) 23 = .ok (.fcmp .l, 1) := by decide +kernel
theorem dX10_bitsOf_24 : decode (mc mX10_bitsOf) 24 = .ok (.ifCond .lt 18, 3) := by decide +kernel
theorem dX10_bitsOf_27 : decode (mc mX10_bitsOf) 27 = .ok (.fload_n 2, 1) := by decide +kernel
theorem dX10_bitsOf_28 : decode (mc mX10_bitsOf) 28 = .ok (.ldc_w 342, 3) := by decide +kernel
theorem dX10_bitsOf_31 : decode (mc mX10_bitsOf) 31 = .ok (.fmul, 1) := by decide +kernel
theorem dX10_bitsOf_32 : decode (mc mX10_bitsOf) 32 = .ok (.fstore_n 2, 1) := by decide +kernel
theorem dX10_bitsOf_33 : decode (mc mX10_bitsOf) 33 = .ok (.iinc 1 1, 3) := by decide +kernel
theorem dX10_bitsOf_36 : decode (mc mX10_bitsOf) 36 = .ok (.iinc 3 1, 3) := by decide +kernel
theorem dX10_bitsOf_39 : decode (mc mX10_bitsOf) 39 = .ok (.goto (-24), 3) := by decide +kernel
theorem dX10_bitsOf_42 : decode (mc mX10_bitsOf) 42 = .ok (.iconst 0, 1) := by decide +kernel
theorem dX10_bitsOf_43 : decode (mc mX10_bitsOf) 43 = .ok (.istore_n 3, 1) := by decide +kernel
theorem dX10_bitsOf_44 : decode (mc mX10_bitsOf) 44 = .ok (.iload_n 3, 1) := by decide +kernel
theorem dX10_bitsOf_45 : decode (mc mX10_bitsOf) 45 = .ok (.bipush 126, 2) := by decide +kernel
theorem dX10_bitsOf_47 : decode (mc mX10_bitsOf) 47 = .ok (.if_icmp .ge 22, 3) := by decide +kernel
theorem dX10_bitsOf_50 : decode (mc mX10_bitsOf) 50 = .ok (.fload_n 2, 1) := by decide +kernel
theorem dX10_bitsOf_51 : decode (mc mX10_bitsOf) 51 = .ok (.fconst 1, 1) := by decide +kernel
theorem dX10_bitsOf_52 : decode (mc mX10_bitsOf) 52 = .ok (.fcmp .g, 1) := by decide +kernel
theorem dX10_bitsOf_53 : decode (mc mX10_bitsOf) 53 = .ok (.ifCond .ge 16, 3) := by decide +kernel
theorem dX10_bitsOf_56 : decode (mc mX10_bitsOf) 56 = .ok (.fload_n 2, 1) := by decide +kernel
theorem dX10_bitsOf_57 : decode (mc mX10_bitsOf) 57 = .ok (.fconst 2, 1) := by decide +kernel
theorem dX10_bitsOf_58 : decode (mc mX10_bitsOf) 58 = .ok (.fmul, 1) := by decide +kernel
theorem dX10_bitsOf_59 : decode (mc mX10_bitsOf) 59 = .ok (.fstore_n 2, 1) := by decide +kernel
theorem dX10_bitsOf_60 : decode (mc mX10_bitsOf) 60 = .ok (.iinc 1 (-1), 3) := by decide +kernel
theorem dX10_bitsOf_63 : decode (mc mX10_bitsOf) 63 = .ok (.iinc 3 1, 3) := by decide +kernel
theorem dX10_bitsOf_66 : decode (mc mX10_bitsOf) 66 = .ok (.goto (-22), 3) := by decide +kernel
theorem dX10_bitsOf_69 : decode (mc mX10_bitsOf) 69 = .ok (.iload_n 1, 1) := by decide +kernel
theorem dX10_bitsOf_70 : decode (mc mX10_bitsOf) 70 = .ok (.bipush 23, 2) := by decide +kernel
theorem dX10_bitsOf_72 : decode (mc mX10_bitsOf) 72 = .ok (.ishl, 1) := by decide +kernel
theorem dX10_bitsOf_73 : decode (mc mX10_bitsOf) 73 = .ok (.fload_n 2, 1) := by decide +kernel
theorem dX10_bitsOf_74 : decode (mc mX10_bitsOf) 74 = .ok (.ldc_w 347, 3) := by decide +kernel
theorem dX10_bitsOf_77 : decode (mc mX10_bitsOf) 77 = .ok (.fmul, 1) := by decide +kernel
theorem dX10_bitsOf_78 : decode (mc mX10_bitsOf) 78 = .ok (.f2i, 1) := by decide +kernel
theorem dX10_bitsOf_79 : decode (mc mX10_bitsOf) 79 = .ok (.ldc_w 348, 3) := by decide +kernel
theorem dX10_bitsOf_82 : decode (mc mX10_bitsOf) 82 = .ok (.isub, 1) := by decide +kernel
theorem dX10_bitsOf_83 : decode (mc mX10_bitsOf) 83 = .ok (.iadd, 1) := by decide +kernel
theorem dX10_bitsOf_84 : decode (mc mX10_bitsOf) 84 = .ok (.ireturn, 1) := by decide +kernel
