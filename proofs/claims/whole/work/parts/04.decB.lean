theorem dX10_init_0 : decode cX10_init 0 = .ok (.aload_n 0, 1) := by decide +kernel
theorem dX10_init_1 : decode cX10_init 1 = .ok (.invokespecial 1, 3) := by decide +kernel
theorem dX10_init_4 : decode cX10_init 4 = .ok (.aload_n 0, 1) := by decide +kernel
theorem dX10_init_5 : decode cX10_init 5 = .ok (.sipush 200, 3) := by decide +kernel
theorem dX10_init_8 : decode cX10_init 8 = .ok (.newarray .byte, 2) := by decide +kernel
theorem dX10_init_10 : decode cX10_init 10 = .ok (.putfield 7, 3) := by decide +kernel
theorem dX10_init_13 : decode cX10_init 13 = .ok (.aload_n 0, 1) := by decide +kernel
theorem dX10_init_14 : decode cX10_init 14 = .ok (.iconst 2, 1) := by decide +kernel
theorem dX10_init_15 : decode cX10_init 15 = .ok (.newarray .int, 2) := by decide +kernel
theorem dX10_init_17 : decode cX10_init 17 = .ok (.putfield 13, 3) := by decide +kernel
theorem dX10_init_20 : decode cX10_init 20 = .ok (.aload_n 0, 1) := by decide +kernel
theorem dX10_init_21 : decode cX10_init 21 = .ok (.iconst 2, 1) := by decide +kernel
theorem dX10_init_22 : decode cX10_init 22 = .ok (.newarray .int, 2) := by decide +kernel
theorem dX10_init_24 : decode cX10_init 24 = .ok (.putfield 17, 3) := by decide +kernel
theorem dX10_init_27 : decode cX10_init 27 = .ok (.aload_n 0, 1) := by decide +kernel
theorem dX10_init_28 : decode cX10_init 28 = .ok (.iconst 2, 1) := by decide +kernel
theorem dX10_init_29 : decode cX10_init 29 = .ok (.newarray .int, 2) := by decide +kernel
theorem dX10_init_31 : decode cX10_init 31 = .ok (.putfield 20, 3) := by decide +kernel
theorem dX10_init_34 : decode cX10_init 34 = .ok (.aload_n 0, 1) := by decide +kernel
theorem dX10_init_35 : decode cX10_init 35 = .ok (.bipush 10, 2) := by decide +kernel
theorem dX10_init_37 : decode cX10_init 37 = .ok (.newarray .int, 2) := by decide +kernel
theorem dX10_init_39 : decode cX10_init 39 = .ok (.putfield 23, 3) := by decide +kernel
theorem dX10_init_42 : decode cX10_init 42 = .ok (.aload_n 0, 1) := by decide +kernel
theorem dX10_init_43 : decode cX10_init 43 = .ok (.bipush 10, 2) := by decide +kernel
theorem dX10_init_45 : decode cX10_init 45 = .ok (.newarray .int, 2) := by decide +kernel
theorem dX10_init_47 : decode cX10_init 47 = .ok (.putfield 26, 3) := by decide +kernel
theorem dX10_init_50 : decode cX10_init 50 = .ok (.aload_n 0, 1) := by decide +kernel
theorem dX10_init_51 : decode cX10_init 51 = .ok (.bipush 10, 2) := by decide +kernel
theorem dX10_init_53 : decode cX10_init 53 = .ok (.newarray .int, 2) := by decide +kernel
theorem dX10_init_55 : decode cX10_init 55 = .ok (.putfield 29, 3) := by decide +kernel
theorem dX10_init_58 : decode cX10_init 58 = .ok (.aload_n 0, 1) := by decide +kernel
theorem dX10_init_59 : decode cX10_init 59 = .ok (.bipush 40, 2) := by decide +kernel
theorem dX10_init_61 : decode cX10_init 61 = .ok (.newarray .int, 2) := by decide +kernel
theorem dX10_init_63 : decode cX10_init 63 = .ok (.putfield 32, 3) := by decide +kernel
theorem dX10_init_66 : decode cX10_init 66 = .ok (.aload_n 0, 1) := by decide +kernel
theorem dX10_init_67 : decode cX10_init 67 = .ok (.sipush 504, 3) := by decide +kernel
theorem dX10_init_70 : decode cX10_init 70 = .ok (.newarray .int, 2) := by decide +kernel
theorem dX10_init_72 : decode cX10_init 72 = .ok (.putfield 35, 3) := by decide +kernel
theorem dX10_init_75 : decode cX10_init 75 = .ok (.aload_n 0, 1) := by decide +kernel
theorem dX10_init_76 : decode cX10_init 76 = .ok (.bipush 64, 2) := by decide +kernel
theorem dX10_init_78 : decode cX10_init 78 = .ok (.newarray .int, 2) := by decide +kernel
theorem dX10_init_80 : decode cX10_init 80 = .ok (.putfield 38, 3) := by decide +kernel
theorem dX10_init_83 : decode cX10_init 83 = .ok (.aload_n 0, 1) := by decide +kernel
theorem dX10_init_84 : decode cX10_init 84 = .ok (.bipush 64, 2) := by decide +kernel
theorem dX10_init_86 : decode cX10_init 86 = .ok (.newarray .int, 2) := by decide +kernel
theorem dX10_init_88 : decode cX10_init 88 = .ok (.putfield 41, 3) := by decide +kernel
theorem dX10_init_91 : decode cX10_init 91 = .ok (.aload_n 0, 1) := by decide +kernel
theorem dX10_init_92 : decode cX10_init 92 = .ok (.bipush 12, 2) := by decide +kernel
theorem dX10_init_94 : decode cX10_init 94 = .ok (.newarray .int, 2) := by decide +kernel
theorem dX10_init_96 : decode cX10_init 96 = .ok (.putfield 44, 3) := by decide +kernel
theorem dX10_init_99 : decode cX10_init 99 = .ok (.aload_n 0, 1) := by decide +kernel
theorem dX10_init_100 : decode cX10_init 100 = .ok (.bipush 8, 2) := by decide +kernel
theorem dX10_init_102 : decode cX10_init 102 = .ok (.newarray .int, 2) := by decide +kernel
theorem dX10_init_104 : decode cX10_init 104 = .ok (.putfield 47, 3) := by decide +kernel
theorem dX10_init_107 : decode cX10_init 107 = .ok (.aload_n 0, 1) := by decide +kernel
theorem dX10_init_108 : decode cX10_init 108 = .ok (.sipush 2048, 3) := by decide +kernel
theorem dX10_init_111 : decode cX10_init 111 = .ok (.newarray .int, 2) := by decide +kernel
theorem dX10_init_113 : decode cX10_init 113 = .ok (.putfield 50, 3) := by decide +kernel
theorem dX10_init_116 : decode cX10_init 116 = .ok (.aload_n 0, 1) := by decide +kernel
theorem dX10_init_117 : decode cX10_init 117 = .ok (.getfield 13, 3) := by decide +kernel
theorem dX10_init_120 : decode cX10_init 120 = .ok (.iconst 0, 1) := by decide +kernel
theorem dX10_init_121 : decode cX10_init 121 = .ok (.iconst 5, 1) := by decide +kernel
theorem dX10_init_122 : decode cX10_init 122 = .ok (.iastore, 1) := by decide +kernel
theorem dX10_init_123 : decode cX10_init 123 = .ok (.aload_n 0, 1) := by decide +kernel
theorem dX10_init_124 : decode cX10_init 124 = .ok (.getfield 17, 3) := by decide +kernel
theorem dX10_init_127 : decode cX10_init 127 = .ok (.iconst 0, 1) := by decide +kernel
theorem dX10_init_128 : decode cX10_init 128 = .ok (.iconst 5, 1) := by decide +kernel
theorem dX10_init_129 : decode cX10_init 129 = .ok (.iastore, 1) := by decide +kernel
theorem dX10_init_130 : decode cX10_init 130 = .ok (.aload_n 0, 1) := by decide +kernel
theorem dX10_init_131 : decode cX10_init 131 = .ok (.iconst 0, 1) := by decide +kernel
theorem dX10_init_132 : decode cX10_init 132 = .ok (.bipush 6, 2) := by decide +kernel
theorem dX10_init_134 : decode cX10_init 134 = .ok (.iconst 0, 1) := by decide +kernel
theorem dX10_init_135 : decode cX10_init 135 = .ok (.iconst 3, 1) := by decide +kernel
theorem dX10_init_136 : decode cX10_init 136 = .ok (.iconst 0, 1) := by decide +kernel
theorem dX10_init_137 : decode cX10_init 137 = .ok (.invokevirtual 53, 3) := by decide +kernel
theorem dX10_init_140 : decode cX10_init 140 = .ok (.aload_n 0, 1) := by decide +kernel
theorem dX10_init_141 : decode cX10_init 141 = .ok (.iconst 1, 1) := by decide +kernel
theorem dX10_init_142 : decode cX10_init 142 = .ok (.bipush 7, 2) := by decide +kernel
theorem dX10_init_144 : decode cX10_init 144 = .ok (.iconst 1, 1) := by decide +kernel
theorem dX10_init_145 : decode cX10_init 145 = .ok (.ldc 57, 2) := by decide +kernel
theorem dX10_init_147 : decode cX10_init 147 = .ok (.iconst 1, 1) := by decide +kernel
theorem dX10_init_148 : decode cX10_init 148 = .ok (.invokevirtual 53, 3) := by decide +kernel
theorem dX10_init_151 : decode cX10_init 151 = .ok (.aload_n 0, 1) := by decide +kernel
theorem dX10_init_152 : decode cX10_init 152 = .ok (.iconst 2, 1) := by decide +kernel
theorem dX10_init_153 : decode cX10_init 153 = .ok (.bipush 12, 2) := by decide +kernel
theorem dX10_init_155 : decode cX10_init 155 = .ok (.iconst 0, 1) := by decide +kernel
theorem dX10_init_156 : decode cX10_init 156 = .ok (.iconst 5, 1) := by decide +kernel
theorem dX10_init_157 : decode cX10_init 157 = .ok (.iconst 0, 1) := by decide +kernel
theorem dX10_init_158 : decode cX10_init 158 = .ok (.invokevirtual 53, 3) := by decide +kernel
theorem dX10_init_161 : decode cX10_init 161 = .ok (.aload_n 0, 1) := by decide +kernel
theorem dX10_init_162 : decode cX10_init 162 = .ok (.iconst 3, 1) := by decide +kernel
theorem dX10_init_163 : decode cX10_init 163 = .ok (.bipush 17, 2) := by decide +kernel
theorem dX10_init_165 : decode cX10_init 165 = .ok (.iconst 2, 1) := by decide +kernel
theorem dX10_init_166 : decode cX10_init 166 = .ok (.iconst 4, 1) := by decide +kernel
theorem dX10_init_167 : decode cX10_init 167 = .ok (.iconst 2, 1) := by decide +kernel
theorem dX10_init_168 : decode cX10_init 168 = .ok (.invokevirtual 53, 3) := by decide +kernel
theorem dX10_init_171 : decode cX10_init 171 = .ok (.aload_n 0, 1) := by decide +kernel
theorem dX10_init_172 : decode cX10_init 172 = .ok (.iconst 4, 1) := by decide +kernel
theorem dX10_init_173 : decode cX10_init 173 = .ok (.bipush 18, 2) := by decide +kernel
theorem dX10_init_175 : decode cX10_init 175 = .ok (.iconst 0, 1) := by decide +kernel
theorem dX10_init_176 : decode cX10_init 176 = .ok (.bipush 9, 2) := by decide +kernel
theorem dX10_init_178 : decode cX10_init 178 = .ok (.iconst 3, 1) := by decide +kernel
theorem dX10_init_179 : decode cX10_init 179 = .ok (.invokevirtual 53, 3) := by decide +kernel
theorem dX10_init_182 : decode cX10_init 182 = .ok (.aload_n 0, 1) := by decide +kernel
theorem dX10_init_183 : decode cX10_init 183 = .ok (.iconst 5, 1) := by decide +kernel
theorem dX10_init_184 : decode cX10_init 184 = .ok (.iconst 3, 1) := by decide +kernel
theorem dX10_init_185 : decode cX10_init 185 = .ok (.iconst 0, 1) := by decide +kernel
theorem dX10_init_186 : decode cX10_init 186 = .ok (.bipush 6, 2) := by decide +kernel
theorem dX10_init_188 : decode cX10_init 188 = .ok (.iconst 1, 1) := by decide +kernel
theorem dX10_init_189 : decode cX10_init 189 = .ok (.invokevirtual 53, 3) := by decide +kernel
theorem dX10_init_192 : decode cX10_init 192 = .ok (.aload_n 0, 1) := by decide +kernel
theorem dX10_init_193 : decode cX10_init 193 = .ok (.getfield 35, 3) := by decide +kernel
theorem dX10_init_196 : decode cX10_init 196 = .ok (.iconst 1, 1) := by decide +kernel
theorem dX10_init_197 : decode cX10_init 197 = .ok (.bipush 6, 2) := by decide +kernel
theorem dX10_init_199 : decode cX10_init 199 = .ok (.iastore, 1) := by decide +kernel
theorem dX10_init_200 : decode cX10_init 200 = .ok (.aload_n 0, 1) := by decide +kernel
theorem dX10_init_201 : decode cX10_init 201 = .ok (.getfield 20, 3) := by decide +kernel
theorem dX10_init_204 : decode cX10_init 204 = .ok (.iconst 0, 1) := by decide +kernel
theorem dX10_init_205 : decode cX10_init 205 = .ok (.iconst 2, 1) := by decide +kernel
theorem dX10_init_206 : decode cX10_init 206 = .ok (.iastore, 1) := by decide +kernel
theorem dX10_init_207 : decode cX10_init 207 = .ok (.aload_n 0, 1) := by decide +kernel
theorem dX10_init_208 : decode cX10_init 208 = .ok (.iconst 0, 1) := by decide +kernel
theorem dX10_init_209 : decode cX10_init 209 = .ok (.iconst 0, 1) := by decide +kernel
theorem dX10_init_210 : decode cX10_init 210 = .ok (.iconst 4, 1) := by decide +kernel
theorem dX10_init_211 : decode cX10_init 211 = .ok (.iconst 2, 1) := by decide +kernel
theorem dX10_init_212 : decode cX10_init 212 = .ok (.iconst 2, 1) := by decide +kernel
theorem dX10_init_213 : decode cX10_init 213 = .ok (.invokevirtual 58, 3) := by decide +kernel
theorem dX10_init_216 : decode cX10_init 216 = .ok (.aload_n 0, 1) := by decide +kernel
theorem dX10_init_217 : decode cX10_init 217 = .ok (.iconst 0, 1) := by decide +kernel
theorem dX10_init_218 : decode cX10_init 218 = .ok (.iconst 1, 1) := by decide +kernel
theorem dX10_init_219 : decode cX10_init 219 = .ok (.bipush 6, 2) := by decide +kernel
theorem dX10_init_221 : decode cX10_init 221 = .ok (.iconst 2, 1) := by decide +kernel
theorem dX10_init_222 : decode cX10_init 222 = .ok (.iconst 3, 1) := by decide +kernel
theorem dX10_init_223 : decode cX10_init 223 = .ok (.invokevirtual 58, 3) := by decide +kernel
theorem dX10_init_226 : decode cX10_init 226 = .ok (.return_, 1) := by decide +kernel
theorem dX10_first_0 : decode cX10_first 0 = .ok (.aload_n 0, 1) := by decide +kernel
theorem dX10_first_1 : decode cX10_first 1 = .ok (.getfield 35, 3) := by decide +kernel
theorem dX10_first_4 : decode cX10_first 4 = .ok (.iconst 2, 1) := by decide +kernel
theorem dX10_first_5 : decode cX10_first 5 = .ok (.iload_n 1, 1) := by decide +kernel
theorem dX10_first_6 : decode cX10_first 6 = .ok (.iadd, 1) := by decide +kernel
theorem dX10_first_7 : decode cX10_first 7 = .ok (.iload_n 2, 1) := by decide +kernel
theorem dX10_first_8 : decode cX10_first 8 = .ok (.iastore, 1) := by decide +kernel
theorem dX10_first_9 : decode cX10_first 9 = .ok (.aload_n 0, 1) := by decide +kernel
theorem dX10_first_10 : decode cX10_first 10 = .ok (.getfield 35, 3) := by decide +kernel
theorem dX10_first_13 : decode cX10_first 13 = .ok (.bipush 12, 2) := by decide +kernel
theorem dX10_first_15 : decode cX10_first 15 = .ok (.iload_n 1, 1) := by decide +kernel
theorem dX10_first_16 : decode cX10_first 16 = .ok (.iadd, 1) := by decide +kernel
theorem dX10_first_17 : decode cX10_first 17 = .ok (.iload_n 3, 1) := by decide +kernel
theorem dX10_first_18 : decode cX10_first 18 = .ok (.iastore, 1) := by decide +kernel
theorem dX10_first_19 : decode cX10_first 19 = .ok (.aload_n 0, 1) := by decide +kernel
theorem dX10_first_20 : decode cX10_first 20 = .ok (.getfield 35, 3) := by decide +kernel
theorem dX10_first_23 : decode cX10_first 23 = .ok (.bipush 22, 2) := by decide +kernel
theorem dX10_first_25 : decode cX10_first 25 = .ok (.iload_n 1, 1) := by decide +kernel
theorem dX10_first_26 : decode cX10_first 26 = .ok (.iadd, 1) := by decide +kernel
theorem dX10_first_27 : decode cX10_first 27 = .ok (.iload 4, 2) := by decide +kernel
theorem dX10_first_29 : decode cX10_first 29 = .ok (.iastore, 1) := by decide +kernel
theorem dX10_first_30 : decode cX10_first 30 = .ok (.aload_n 0, 1) := by decide +kernel
theorem dX10_first_31 : decode cX10_first 31 = .ok (.getfield 35, 3) := by decide +kernel
theorem dX10_first_34 : decode cX10_first 34 = .ok (.bipush 32, 2) := by decide +kernel
theorem dX10_first_36 : decode cX10_first 36 = .ok (.iload_n 1, 1) := by decide +kernel
theorem dX10_first_37 : decode cX10_first 37 = .ok (.iadd, 1) := by decide +kernel
theorem dX10_first_38 : decode cX10_first 38 = .ok (.iload 5, 2) := by decide +kernel
theorem dX10_first_40 : decode cX10_first 40 = .ok (.iastore, 1) := by decide +kernel
theorem dX10_first_41 : decode cX10_first 41 = .ok (.return_, 1) := by decide +kernel
theorem dX10_putMap_0 : decode cX10_putMap 0 = .ok (.aload_n 0, 1) := by decide +kernel
theorem dX10_putMap_1 : decode cX10_putMap 1 = .ok (.getfield 23, 3) := by decide +kernel
theorem dX10_putMap_4 : decode cX10_putMap 4 = .ok (.iconst 5, 1) := by decide +kernel
theorem dX10_putMap_5 : decode cX10_putMap 5 = .ok (.iload_n 1, 1) := by decide +kernel
theorem dX10_putMap_6 : decode cX10_putMap 6 = .ok (.imul, 1) := by decide +kernel
theorem dX10_putMap_7 : decode cX10_putMap 7 = .ok (.iload_n 2, 1) := by decide +kernel
theorem dX10_putMap_8 : decode cX10_putMap 8 = .ok (.iadd, 1) := by decide +kernel
theorem dX10_putMap_9 : decode cX10_putMap 9 = .ok (.iload_n 3, 1) := by decide +kernel
theorem dX10_putMap_10 : decode cX10_putMap 10 = .ok (.iastore, 1) := by decide +kernel
theorem dX10_putMap_11 : decode cX10_putMap 11 = .ok (.aload_n 0, 1) := by decide +kernel
theorem dX10_putMap_12 : decode cX10_putMap 12 = .ok (.getfield 26, 3) := by decide +kernel
theorem dX10_putMap_15 : decode cX10_putMap 15 = .ok (.iconst 5, 1) := by decide +kernel
theorem dX10_putMap_16 : decode cX10_putMap 16 = .ok (.iload_n 1, 1) := by decide +kernel
theorem dX10_putMap_17 : decode cX10_putMap 17 = .ok (.imul, 1) := by decide +kernel
theorem dX10_putMap_18 : decode cX10_putMap 18 = .ok (.iload_n 2, 1) := by decide +kernel
theorem dX10_putMap_19 : decode cX10_putMap 19 = .ok (.iadd, 1) := by decide +kernel
theorem dX10_putMap_20 : decode cX10_putMap 20 = .ok (.iload 4, 2) := by decide +kernel
theorem dX10_putMap_22 : decode cX10_putMap 22 = .ok (.iastore, 1) := by decide +kernel
theorem dX10_putMap_23 : decode cX10_putMap 23 = .ok (.aload_n 0, 1) := by decide +kernel
theorem dX10_putMap_24 : decode cX10_putMap 24 = .ok (.getfield 29, 3) := by decide +kernel
theorem dX10_putMap_27 : decode cX10_putMap 27 = .ok (.iconst 5, 1) := by decide +kernel
theorem dX10_putMap_28 : decode cX10_putMap 28 = .ok (.iload_n 1, 1) := by decide +kernel
theorem dX10_putMap_29 : decode cX10_putMap 29 = .ok (.imul, 1) := by decide +kernel
theorem dX10_putMap_30 : decode cX10_putMap 30 = .ok (.iload_n 2, 1) := by decide +kernel
theorem dX10_putMap_31 : decode cX10_putMap 31 = .ok (.iadd, 1) := by decide +kernel
theorem dX10_putMap_32 : decode cX10_putMap 32 = .ok (.iload 5, 2) := by decide +kernel
theorem dX10_putMap_34 : decode cX10_putMap 34 = .ok (.iastore, 1) := by decide +kernel
theorem dX10_putMap_35 : decode cX10_putMap 35 = .ok (.return_, 1) := by decide +kernel
theorem dX10_in_0 : decode cX10_in 0 = .ok (.iload_n 0, 1) := by decide +kernel
theorem dX10_in_1 : decode cX10_in 1 = .ok (.iload_n 1, 1) := by decide +kernel
theorem dX10_in_2 : decode cX10_in 2 = .ok (.if_icmp .lt 12, 3) := by decide +kernel
theorem dX10_in_5 : decode cX10_in 5 = .ok (.iload_n 0, 1) := by decide +kernel
theorem dX10_in_6 : decode cX10_in 6 = .ok (.iload_n 2, 1) := by decide +kernel
theorem dX10_in_7 : decode cX10_in 7 = .ok (.if_icmp .gt 7, 3) := by decide +kernel
theorem dX10_in_10 : decode cX10_in 10 = .ok (.iconst 1, 1) := by decide +kernel
theorem dX10_in_11 : decode cX10_in 11 = .ok (.goto 4, 3) := by decide +kernel
theorem dX10_in_14 : decode cX10_in 14 = .ok (.iconst 0, 1) := by decide +kernel
theorem dX10_in_15 : decode cX10_in 15 = .ok (.ireturn, 1) := by decide +kernel
theorem dX10_write_0 : decode cX10_write 0 = .ok (.iload_n 1, 1) := by decide +kernel
theorem dX10_write_1 : decode cX10_write 1 = .ok (.bipush 32, 2) := by decide +kernel
theorem dX10_write_3 : decode cX10_write 3 = .ok (.bipush 126, 2) := by decide +kernel
theorem dX10_write_5 : decode cX10_write 5 = .ok (.invokestatic 61, 3) := by decide +kernel
theorem dX10_write_8 : decode cX10_write 8 = .ok (.ifCond .ne 5, 3) := by decide +kernel
theorem dX10_write_11 : decode cX10_write 11 = .ok (.iconst (-1), 1) := by decide +kernel
theorem dX10_write_12 : decode cX10_write 12 = .ok (.ireturn, 1) := by decide +kernel
theorem dX10_write_13 : decode cX10_write 13 = .ok (.aload_n 0, 1) := by decide +kernel
theorem dX10_write_14 : decode cX10_write 14 = .ok (.getfield 65, 3) := by decide +kernel
theorem dX10_write_17 : decode cX10_write 17 = .ok (.sipush 200, 3) := by decide +kernel
theorem dX10_write_20 : decode cX10_write 20 = .ok (.if_icmp .ne 6, 3) := by decide +kernel
theorem dX10_write_23 : decode cX10_write 23 = .ok (.bipush (-3), 2) := by decide +kernel
theorem dX10_write_25 : decode cX10_write 25 = .ok (.ireturn, 1) := by decide +kernel
theorem dX10_write_26 : decode cX10_write 26 = .ok (.aload_n 0, 1) := by decide +kernel
theorem dX10_write_27 : decode cX10_write 27 = .ok (.getfield 7, 3) := by decide +kernel
theorem dX10_write_30 : decode cX10_write 30 = .ok (.aload_n 0, 1) := by decide +kernel
theorem dX10_write_31 : decode cX10_write 31 = .ok (.getfield 65, 3) := by decide +kernel
theorem dX10_write_34 : decode cX10_write 34 = .ok (.iload_n 1, 1) := by decide +kernel
theorem dX10_write_35 : decode cX10_write 35 = .ok (.i2b, 1) := by decide +kernel
theorem dX10_write_36 : decode cX10_write 36 = .ok (.bastore, 1) := by decide +kernel
theorem dX10_write_37 : decode cX10_write 37 = .ok (.aload_n 0, 1) := by decide +kernel
theorem dX10_write_38 : decode cX10_write 38 = .ok (.dup, 1) := by decide +kernel
theorem dX10_write_39 : decode cX10_write 39 = .ok (.getfield 65, 3) := by decide +kernel
theorem dX10_write_42 : decode cX10_write 42 = .ok (.iconst 1, 1) := by decide +kernel
theorem dX10_write_43 : decode cX10_write 43 = .ok (.iadd, 1) := by decide +kernel
theorem dX10_write_44 : decode cX10_write 44 = .ok (.putfield 65, 3) := by decide +kernel
theorem dX10_write_47 : decode cX10_write 47 = .ok (.aload_n 0, 1) := by decide +kernel
theorem dX10_write_48 : decode cX10_write 48 = .ok (.getfield 65, 3) := by decide +kernel
theorem dX10_write_51 : decode cX10_write 51 = .ok (.ireturn, 1) := by decide +kernel
theorem dX10_wipe_0 : decode cX10_wipe 0 = .ok (.aload_n 0, 1) := by decide +kernel
theorem dX10_wipe_1 : decode cX10_wipe 1 = .ok (.getfield 65, 3) := by decide +kernel
theorem dX10_wipe_4 : decode cX10_wipe 4 = .ok (.istore_n 1, 1) := by decide +kernel
theorem dX10_wipe_5 : decode cX10_wipe 5 = .ok (.aload_n 0, 1) := by decide +kernel
theorem dX10_wipe_6 : decode cX10_wipe 6 = .ok (.iconst 0, 1) := by decide +kernel
theorem dX10_wipe_7 : decode cX10_wipe 7 = .ok (.putfield 65, 3) := by decide +kernel
theorem dX10_wipe_10 : decode cX10_wipe 10 = .ok (.iload_n 1, 1) := by decide +kernel
theorem dX10_wipe_11 : decode cX10_wipe 11 = .ok (.ireturn, 1) := by decide +kernel
theorem dX10_here_0 : decode cX10_here 0 = .ok (.aload_n 0, 1) := by decide +kernel
theorem dX10_here_1 : decode cX10_here 1 = .ok (.getfield 69, 3) := by decide +kernel
theorem dX10_here_4 : decode cX10_here 4 = .ok (.aload_n 0, 1) := by decide +kernel
theorem dX10_here_5 : decode cX10_here 5 = .ok (.getfield 65, 3) := by decide +kernel
theorem dX10_here_8 : decode cX10_here 8 = .ok (.if_icmp .ge 15, 3) := by decide +kernel
theorem dX10_here_11 : decode cX10_here 11 = .ok (.aload_n 0, 1) := by decide +kernel
theorem dX10_here_12 : decode cX10_here 12 = .ok (.getfield 7, 3) := by decide +kernel
theorem dX10_here_15 : decode cX10_here 15 = .ok (.aload_n 0, 1) := by decide +kernel
theorem dX10_here_16 : decode cX10_here 16 = .ok (.getfield 69, 3) := by decide +kernel
theorem dX10_here_19 : decode cX10_here 19 = .ok (.baload, 1) := by decide +kernel
theorem dX10_here_20 : decode cX10_here 20 = .ok (.goto 4, 3) := by decide +kernel
theorem dX10_here_23 : decode cX10_here 23 = .ok (.iconst (-1), 1) := by decide +kernel
theorem dX10_here_24 : decode cX10_here 24 = .ok (.ireturn, 1) := by decide +kernel
theorem dX10_number_0 : decode cX10_number 0 = .ok (.iconst 0, 1) := by decide +kernel
theorem dX10_number_1 : decode cX10_number 1 = .ok (.istore 4, 2) := by decide +kernel
theorem dX10_number_3 : decode cX10_number 3 = .ok (.iconst 0, 1) := by decide +kernel
theorem dX10_number_4 : decode cX10_number 4 = .ok (.istore 5, 2) := by decide +kernel
theorem dX10_number_6 : decode cX10_number 6 = .ok (.iload 5, 2) := by decide +kernel
theorem dX10_number_8 : decode cX10_number 8 = .ok (.iconst 2, 1) := by decide +kernel
theorem dX10_number_9 : decode cX10_number 9 = .ok (.if_icmp .ge 48, 3) := by decide +kernel
theorem dX10_number_12 : decode cX10_number 12 = .ok (.aload_n 0, 1) := by decide +kernel
theorem dX10_number_13 : decode cX10_number 13 = .ok (.invokevirtual 72, 3) := by decide +kernel
theorem dX10_number_16 : decode cX10_number 16 = .ok (.bipush 48, 2) := by decide +kernel
theorem dX10_number_18 : decode cX10_number 18 = .ok (.bipush 57, 2) := by decide +kernel
theorem dX10_number_20 : decode cX10_number 20 = .ok (.invokestatic 61, 3) := by decide +kernel
theorem dX10_number_23 : decode cX10_number 23 = .ok (.ifCond .eq 34, 3) := by decide +kernel
theorem dX10_number_26 : decode cX10_number 26 = .ok (.bipush 10, 2) := by decide +kernel
theorem dX10_number_28 : decode cX10_number 28 = .ok (.iload 4, 2) := by decide +kernel
theorem dX10_number_30 : decode cX10_number 30 = .ok (.imul, 1) := by decide +kernel
theorem dX10_number_31 : decode cX10_number 31 = .ok (.aload_n 0, 1) := by decide +kernel
theorem dX10_number_32 : decode cX10_number 32 = .ok (.invokevirtual 72, 3) := by decide +kernel
theorem dX10_number_35 : decode cX10_number 35 = .ok (.iadd, 1) := by decide +kernel
theorem dX10_number_36 : decode cX10_number 36 = .ok (.bipush 48, 2) := by decide +kernel
theorem dX10_number_38 : decode cX10_number 38 = .ok (.isub, 1) := by decide +kernel
theorem dX10_number_39 : decode cX10_number 39 = .ok (.istore 4, 2) := by decide +kernel
theorem dX10_number_41 : decode cX10_number 41 = .ok (.aload_n 0, 1) := by decide +kernel
theorem dX10_number_42 : decode cX10_number 42 = .ok (.dup, 1) := by decide +kernel
theorem dX10_number_43 : decode cX10_number 43 = .ok (.getfield 69, 3) := by decide +kernel
theorem dX10_number_46 : decode cX10_number 46 = .ok (.iconst 1, 1) := by decide +kernel
theorem dX10_number_47 : decode cX10_number 47 = .ok (.iadd, 1) := by decide +kernel
theorem dX10_number_48 : decode cX10_number 48 = .ok (.putfield 69, 3) := by decide +kernel
theorem dX10_number_51 : decode cX10_number 51 = .ok (.iinc 5 1, 3) := by decide +kernel
theorem dX10_number_54 : decode cX10_number 54 = .ok (.goto (-48), 3) := by decide +kernel
theorem dX10_number_57 : decode cX10_number 57 = .ok (.aload_n 0, 1) := by decide +kernel
theorem dX10_number_58 : decode cX10_number 58 = .ok (.aload_n 0, 1) := by decide +kernel
theorem dX10_number_59 : decode cX10_number 59 = .ok (.getfield 76, 3) := by decide +kernel
theorem dX10_number_62 : decode cX10_number 62 = .ok (.ifCond .eq 30, 3) := by decide +kernel
theorem dX10_number_65 : decode cX10_number 65 = .ok (.iload 5, 2) := by decide +kernel
theorem dX10_number_67 : decode cX10_number 67 = .ok (.ifCond .le 25, 3) := by decide +kernel
theorem dX10_number_70 : decode cX10_number 70 = .ok (.iload 4, 2) := by decide +kernel
theorem dX10_number_72 : decode cX10_number 72 = .ok (.iload_n 1, 1) := by decide +kernel
theorem dX10_number_73 : decode cX10_number 73 = .ok (.iload_n 2, 1) := by decide +kernel
theorem dX10_number_74 : decode cX10_number 74 = .ok (.invokestatic 61, 3) := by decide +kernel
theorem dX10_number_77 : decode cX10_number 77 = .ok (.ifCond .eq 15, 3) := by decide +kernel
theorem dX10_number_80 : decode cX10_number 80 = .ok (.aload_n 0, 1) := by decide +kernel
theorem dX10_number_81 : decode cX10_number 81 = .ok (.invokevirtual 72, 3) := by decide +kernel
theorem dX10_number_84 : decode cX10_number 84 = .ok (.iload_n 3, 1) := by decide +kernel
theorem dX10_number_85 : decode cX10_number 85 = .ok (.if_icmp .ne 7, 3) := by decide +kernel
theorem dX10_number_88 : decode cX10_number 88 = .ok (.iconst 1, 1) := by decide +kernel
theorem dX10_number_89 : decode cX10_number 89 = .ok (.goto 4, 3) := by decide +kernel
theorem dX10_number_92 : decode cX10_number 92 = .ok (.iconst 0, 1) := by decide +kernel
theorem dX10_number_93 : decode cX10_number 93 = .ok (.putfield 76, 3) := by decide +kernel
theorem dX10_number_96 : decode cX10_number 96 = .ok (.aload_n 0, 1) := by decide +kernel
theorem dX10_number_97 : decode cX10_number 97 = .ok (.dup, 1) := by decide +kernel
theorem dX10_number_98 : decode cX10_number 98 = .ok (.getfield 69, 3) := by decide +kernel
theorem dX10_number_101 : decode cX10_number 101 = .ok (.iconst 1, 1) := by decide +kernel
theorem dX10_number_102 : decode cX10_number 102 = .ok (.iadd, 1) := by decide +kernel
theorem dX10_number_103 : decode cX10_number 103 = .ok (.putfield 69, 3) := by decide +kernel
theorem dX10_number_106 : decode cX10_number 106 = .ok (.iload 4, 2) := by decide +kernel
theorem dX10_number_108 : decode cX10_number 108 = .ok (.ireturn, 1) := by decide +kernel
theorem dX10_cells_0 : decode cX10_cells 0 = .ok (.aload_n 0, 1) := by decide +kernel
theorem dX10_cells_1 : decode cX10_cells 1 = .ok (.getfield 13, 3) := by decide +kernel
theorem dX10_cells_4 : decode cX10_cells 4 = .ok (.iload_n 1, 1) := by decide +kernel
theorem dX10_cells_5 : decode cX10_cells 5 = .ok (.iaload, 1) := by decide +kernel
theorem dX10_cells_6 : decode cX10_cells 6 = .ok (.aload_n 0, 1) := by decide +kernel
theorem dX10_cells_7 : decode cX10_cells 7 = .ok (.getfield 17, 3) := by decide +kernel
theorem dX10_cells_10 : decode cX10_cells 10 = .ok (.iload_n 1, 1) := by decide +kernel
theorem dX10_cells_11 : decode cX10_cells 11 = .ok (.iaload, 1) := by decide +kernel
theorem dX10_cells_12 : decode cX10_cells 12 = .ok (.imul, 1) := by decide +kernel
theorem dX10_cells_13 : decode cX10_cells 13 = .ok (.ireturn, 1) := by decide +kernel
theorem dX10_readItem_0 : decode cX10_readItem 0 = .ok (.aload_n 0, 1) := by decide +kernel
theorem dX10_readItem_1 : decode cX10_readItem 1 = .ok (.invokevirtual 72, 3) := by decide +kernel
theorem dX10_readItem_4 : decode cX10_readItem 4 = .ok (.istore_n 1, 1) := by decide +kernel
theorem dX10_readItem_5 : decode cX10_readItem 5 = .ok (.aload_n 0, 1) := by decide +kernel
theorem dX10_readItem_6 : decode cX10_readItem 6 = .ok (.dup, 1) := by decide +kernel
theorem dX10_readItem_7 : decode cX10_readItem 7 = .ok (.getfield 69, 3) := by decide +kernel
theorem dX10_readItem_10 : decode cX10_readItem 10 = .ok (.iconst 1, 1) := by decide +kernel
theorem dX10_readItem_11 : decode cX10_readItem 11 = .ok (.iadd, 1) := by decide +kernel
theorem dX10_readItem_12 : decode cX10_readItem 12 = .ok (.putfield 69, 3) := by decide +kernel
theorem dX10_readItem_15 : decode cX10_readItem 15 = .ok (.iload_n 1, 1) := by decide +kernel
theorem dX10_readItem_16 : decode cX10_readItem 16 = .ok (.bipush 114, 2) := by decide +kernel
theorem dX10_readItem_18 : decode cX10_readItem 18 = .ok (.if_icmp .ne 61, 3) := by decide +kernel
theorem dX10_readItem_21 : decode cX10_readItem 21 = .ok (.aload_n 0, 1) := by decide +kernel
theorem dX10_readItem_22 : decode cX10_readItem 22 = .ok (.aload_n 0, 1) := by decide +kernel
theorem dX10_readItem_23 : decode cX10_readItem 23 = .ok (.getfield 80, 3) := by decide +kernel
theorem dX10_readItem_26 : decode cX10_readItem 26 = .ok (.ifCond .ne 16, 3) := by decide +kernel
theorem dX10_readItem_29 : decode cX10_readItem 29 = .ok (.aload_n 0, 1) := by decide +kernel
theorem dX10_readItem_30 : decode cX10_readItem 30 = .ok (.getfield 20, 3) := by decide +kernel
theorem dX10_readItem_33 : decode cX10_readItem 33 = .ok (.iconst 1, 1) := by decide +kernel
theorem dX10_readItem_34 : decode cX10_readItem 34 = .ok (.iaload, 1) := by decide +kernel
theorem dX10_readItem_35 : decode cX10_readItem 35 = .ok (.ifCond .ne 7, 3) := by decide +kernel
theorem dX10_readItem_38 : decode cX10_readItem 38 = .ok (.iconst 1, 1) := by decide +kernel
theorem dX10_readItem_39 : decode cX10_readItem 39 = .ok (.goto 4, 3) := by decide +kernel
theorem dX10_readItem_42 : decode cX10_readItem 42 = .ok (.iconst 0, 1) := by decide +kernel
theorem dX10_readItem_43 : decode cX10_readItem 43 = .ok (.putfield 76, 3) := by decide +kernel
theorem dX10_readItem_46 : decode cX10_readItem 46 = .ok (.aload_n 0, 1) := by decide +kernel
theorem dX10_readItem_47 : decode cX10_readItem 47 = .ok (.getfield 13, 3) := by decide +kernel
theorem dX10_readItem_50 : decode cX10_readItem 50 = .ok (.iconst 1, 1) := by decide +kernel
theorem dX10_readItem_51 : decode cX10_readItem 51 = .ok (.aload_n 0, 1) := by decide +kernel
theorem dX10_readItem_52 : decode cX10_readItem 52 = .ok (.iconst 2, 1) := by decide +kernel
theorem dX10_readItem_53 : decode cX10_readItem 53 = .ok (.bipush 8, 2) := by decide +kernel
theorem dX10_readItem_55 : decode cX10_readItem 55 = .ok (.bipush 44, 2) := by decide +kernel
theorem dX10_readItem_57 : decode cX10_readItem 57 = .ok (.invokevirtual 83, 3) := by decide +kernel
theorem dX10_readItem_60 : decode cX10_readItem 60 = .ok (.iastore, 1) := by decide +kernel
theorem dX10_readItem_61 : decode cX10_readItem 61 = .ok (.aload_n 0, 1) := by decide +kernel
theorem dX10_readItem_62 : decode cX10_readItem 62 = .ok (.getfield 17, 3) := by decide +kernel
theorem dX10_readItem_65 : decode cX10_readItem 65 = .ok (.iconst 1, 1) := by decide +kernel
theorem dX10_readItem_66 : decode cX10_readItem 66 = .ok (.aload_n 0, 1) := by decide +kernel
theorem dX10_readItem_67 : decode cX10_readItem 67 = .ok (.iconst 2, 1) := by decide +kernel
theorem dX10_readItem_68 : decode cX10_readItem 68 = .ok (.bipush 8, 2) := by decide +kernel
theorem dX10_readItem_70 : decode cX10_readItem 70 = .ok (.bipush 59, 2) := by decide +kernel
theorem dX10_readItem_72 : decode cX10_readItem 72 = .ok (.invokevirtual 83, 3) := by decide +kernel
theorem dX10_readItem_75 : decode cX10_readItem 75 = .ok (.iastore, 1) := by decide +kernel
theorem dX10_readItem_76 : decode cX10_readItem 76 = .ok (.goto 297, 3) := by decide +kernel
theorem dX10_readItem_79 : decode cX10_readItem 79 = .ok (.iload_n 1, 1) := by decide +kernel
theorem dX10_readItem_80 : decode cX10_readItem 80 = .ok (.bipush 116, 2) := by decide +kernel
theorem dX10_readItem_82 : decode cX10_readItem 82 = .ok (.if_icmp .ne 197, 3) := by decide +kernel
theorem dX10_readItem_85 : decode cX10_readItem 85 = .ok (.aload_n 0, 1) := by decide +kernel
theorem dX10_readItem_86 : decode cX10_readItem 86 = .ok (.aload_n 0, 1) := by decide +kernel
theorem dX10_readItem_87 : decode cX10_readItem 87 = .ok (.getfield 80, 3) := by decide +kernel
theorem dX10_readItem_90 : decode cX10_readItem 90 = .ok (.bipush 10, 2) := by decide +kernel
theorem dX10_readItem_92 : decode cX10_readItem 92 = .ok (.if_icmp .ge 7, 3) := by decide +kernel
theorem dX10_readItem_95 : decode cX10_readItem 95 = .ok (.iconst 1, 1) := by decide +kernel
theorem dX10_readItem_96 : decode cX10_readItem 96 = .ok (.goto 4, 3) := by decide +kernel
theorem dX10_readItem_99 : decode cX10_readItem 99 = .ok (.iconst 0, 1) := by decide +kernel
theorem dX10_readItem_100 : decode cX10_readItem 100 = .ok (.putfield 76, 3) := by decide +kernel
theorem dX10_readItem_103 : decode cX10_readItem 103 = .ok (.aload_n 0, 1) := by decide +kernel
theorem dX10_readItem_104 : decode cX10_readItem 104 = .ok (.iconst 0, 1) := by decide +kernel
theorem dX10_readItem_105 : decode cX10_readItem 105 = .ok (.aload_n 0, 1) := by decide +kernel
theorem dX10_readItem_106 : decode cX10_readItem 106 = .ok (.iconst 1, 1) := by decide +kernel
theorem dX10_readItem_107 : decode cX10_readItem 107 = .ok (.invokevirtual 87, 3) := by decide +kernel
theorem dX10_readItem_110 : decode cX10_readItem 110 = .ok (.iconst 1, 1) := by decide +kernel
theorem dX10_readItem_111 : decode cX10_readItem 111 = .ok (.isub, 1) := by decide +kernel
theorem dX10_readItem_112 : decode cX10_readItem 112 = .ok (.bipush 44, 2) := by decide +kernel
theorem dX10_readItem_114 : decode cX10_readItem 114 = .ok (.invokevirtual 83, 3) := by decide +kernel
theorem dX10_readItem_117 : decode cX10_readItem 117 = .ok (.istore_n 2, 1) := by decide +kernel
theorem dX10_readItem_118 : decode cX10_readItem 118 = .ok (.aload_n 0, 1) := by decide +kernel
theorem dX10_readItem_119 : decode cX10_readItem 119 = .ok (.iconst 0, 1) := by decide +kernel
theorem dX10_readItem_120 : decode cX10_readItem 120 = .ok (.bipush 99, 2) := by decide +kernel
theorem dX10_readItem_122 : decode cX10_readItem 122 = .ok (.bipush 44, 2) := by decide +kernel
theorem dX10_readItem_124 : decode cX10_readItem 124 = .ok (.invokevirtual 83, 3) := by decide +kernel
theorem dX10_readItem_127 : decode cX10_readItem 127 = .ok (.istore_n 3, 1) := by decide +kernel
theorem dX10_readItem_128 : decode cX10_readItem 128 = .ok (.aload_n 0, 1) := by decide +kernel
theorem dX10_readItem_129 : decode cX10_readItem 129 = .ok (.iload_n 3, 1) := by decide +kernel
theorem dX10_readItem_130 : decode cX10_readItem 130 = .ok (.iconst 1, 1) := by decide +kernel
theorem dX10_readItem_131 : decode cX10_readItem 131 = .ok (.iadd, 1) := by decide +kernel
theorem dX10_readItem_132 : decode cX10_readItem 132 = .ok (.bipush 99, 2) := by decide +kernel
theorem dX10_readItem_134 : decode cX10_readItem 134 = .ok (.bipush 44, 2) := by decide +kernel
theorem dX10_readItem_136 : decode cX10_readItem 136 = .ok (.invokevirtual 83, 3) := by decide +kernel
theorem dX10_readItem_139 : decode cX10_readItem 139 = .ok (.istore 4, 2) := by decide +kernel
theorem dX10_readItem_141 : decode cX10_readItem 141 = .ok (.aload_n 0, 1) := by decide +kernel
theorem dX10_readItem_142 : decode cX10_readItem 142 = .ok (.iconst 0, 1) := by decide +kernel
theorem dX10_readItem_143 : decode cX10_readItem 143 = .ok (.iconst 3, 1) := by decide +kernel
theorem dX10_readItem_144 : decode cX10_readItem 144 = .ok (.bipush 59, 2) := by decide +kernel
theorem dX10_readItem_146 : decode cX10_readItem 146 = .ok (.invokevirtual 83, 3) := by decide +kernel
theorem dX10_readItem_149 : decode cX10_readItem 149 = .ok (.istore 5, 2) := by decide +kernel
theorem dX10_readItem_151 : decode cX10_readItem 151 = .ok (.iconst 0, 1) := by decide +kernel
theorem dX10_readItem_152 : decode cX10_readItem 152 = .ok (.istore 6, 2) := by decide +kernel
theorem dX10_readItem_154 : decode cX10_readItem 154 = .ok (.iload 6, 2) := by decide +kernel
theorem dX10_readItem_156 : decode cX10_readItem 156 = .ok (.aload_n 0, 1) := by decide +kernel
theorem dX10_readItem_157 : decode cX10_readItem 157 = .ok (.getfield 80, 3) := by decide +kernel
theorem dX10_readItem_160 : decode cX10_readItem 160 = .ok (.if_icmp .ge 36, 3) := by decide +kernel
theorem dX10_readItem_163 : decode cX10_readItem 163 = .ok (.aload_n 0, 1) := by decide +kernel
theorem dX10_readItem_164 : decode cX10_readItem 164 = .ok (.aload_n 0, 1) := by decide +kernel
theorem dX10_readItem_165 : decode cX10_readItem 165 = .ok (.getfield 76, 3) := by decide +kernel
theorem dX10_readItem_168 : decode cX10_readItem 168 = .ok (.ifCond .eq 18, 3) := by decide +kernel
theorem dX10_readItem_171 : decode cX10_readItem 171 = .ok (.aload_n 0, 1) := by decide +kernel
theorem dX10_readItem_172 : decode cX10_readItem 172 = .ok (.getfield 32, 3) := by decide +kernel
theorem dX10_readItem_175 : decode cX10_readItem 175 = .ok (.iload 6, 2) := by decide +kernel
theorem dX10_readItem_177 : decode cX10_readItem 177 = .ok (.iaload, 1) := by decide +kernel
theorem dX10_readItem_178 : decode cX10_readItem 178 = .ok (.iload_n 2, 1) := by decide +kernel
theorem dX10_readItem_179 : decode cX10_readItem 179 = .ok (.if_icmp .eq 7, 3) := by decide +kernel
theorem dX10_readItem_182 : decode cX10_readItem 182 = .ok (.iconst 1, 1) := by decide +kernel
theorem dX10_readItem_183 : decode cX10_readItem 183 = .ok (.goto 4, 3) := by decide +kernel
theorem dX10_readItem_186 : decode cX10_readItem 186 = .ok (.iconst 0, 1) := by decide +kernel
theorem dX10_readItem_187 : decode cX10_readItem 187 = .ok (.putfield 76, 3) := by decide +kernel
theorem dX10_readItem_190 : decode cX10_readItem 190 = .ok (.iinc 6 1, 3) := by decide +kernel
theorem dX10_readItem_193 : decode cX10_readItem 193 = .ok (.goto (-39), 3) := by decide +kernel
theorem dX10_readItem_196 : decode cX10_readItem 196 = .ok (.aload_n 0, 1) := by decide +kernel
theorem dX10_readItem_197 : decode cX10_readItem 197 = .ok (.getfield 76, 3) := by decide +kernel
theorem dX10_readItem_200 : decode cX10_readItem 200 = .ok (.ifCond .eq 76, 3) := by decide +kernel
theorem dX10_readItem_203 : decode cX10_readItem 203 = .ok (.aload_n 0, 1) := by decide +kernel
theorem dX10_readItem_204 : decode cX10_readItem 204 = .ok (.getfield 32, 3) := by decide +kernel
theorem dX10_readItem_207 : decode cX10_readItem 207 = .ok (.aload_n 0, 1) := by decide +kernel
theorem dX10_readItem_208 : decode cX10_readItem 208 = .ok (.getfield 80, 3) := by decide +kernel
theorem dX10_readItem_211 : decode cX10_readItem 211 = .ok (.iload_n 2, 1) := by decide +kernel
theorem dX10_readItem_212 : decode cX10_readItem 212 = .ok (.iastore, 1) := by decide +kernel
theorem dX10_readItem_213 : decode cX10_readItem 213 = .ok (.aload_n 0, 1) := by decide +kernel
theorem dX10_readItem_214 : decode cX10_readItem 214 = .ok (.getfield 32, 3) := by decide +kernel
theorem dX10_readItem_217 : decode cX10_readItem 217 = .ok (.bipush 10, 2) := by decide +kernel
theorem dX10_readItem_219 : decode cX10_readItem 219 = .ok (.aload_n 0, 1) := by decide +kernel
theorem dX10_readItem_220 : decode cX10_readItem 220 = .ok (.getfield 80, 3) := by decide +kernel
theorem dX10_readItem_223 : decode cX10_readItem 223 = .ok (.iadd, 1) := by decide +kernel
theorem dX10_readItem_224 : decode cX10_readItem 224 = .ok (.iload_n 3, 1) := by decide +kernel
theorem dX10_readItem_225 : decode cX10_readItem 225 = .ok (.iastore, 1) := by decide +kernel
theorem dX10_readItem_226 : decode cX10_readItem 226 = .ok (.aload_n 0, 1) := by decide +kernel
theorem dX10_readItem_227 : decode cX10_readItem 227 = .ok (.getfield 32, 3) := by decide +kernel
theorem dX10_readItem_230 : decode cX10_readItem 230 = .ok (.bipush 20, 2) := by decide +kernel
theorem dX10_readItem_232 : decode cX10_readItem 232 = .ok (.aload_n 0, 1) := by decide +kernel
theorem dX10_readItem_233 : decode cX10_readItem 233 = .ok (.getfield 80, 3) := by decide +kernel
theorem dX10_readItem_236 : decode cX10_readItem 236 = .ok (.iadd, 1) := by decide +kernel
theorem dX10_readItem_237 : decode cX10_readItem 237 = .ok (.iload 4, 2) := by decide +kernel
theorem dX10_readItem_239 : decode cX10_readItem 239 = .ok (.bipush 99, 2) := by decide +kernel
theorem dX10_readItem_241 : decode cX10_readItem 241 = .ok (.if_icmp .ne 8, 3) := by decide +kernel
theorem dX10_readItem_244 : decode cX10_readItem 244 = .ok (.ldc 57, 2) := by decide +kernel
theorem dX10_readItem_246 : decode cX10_readItem 246 = .ok (.goto 5, 3) := by decide +kernel
theorem dX10_readItem_249 : decode cX10_readItem 249 = .ok (.iload 4, 2) := by decide +kernel
theorem dX10_readItem_251 : decode cX10_readItem 251 = .ok (.iastore, 1) := by decide +kernel
theorem dX10_readItem_252 : decode cX10_readItem 252 = .ok (.aload_n 0, 1) := by decide +kernel
theorem dX10_readItem_253 : decode cX10_readItem 253 = .ok (.getfield 32, 3) := by decide +kernel
theorem dX10_readItem_256 : decode cX10_readItem 256 = .ok (.bipush 30, 2) := by decide +kernel
theorem dX10_readItem_258 : decode cX10_readItem 258 = .ok (.aload_n 0, 1) := by decide +kernel
theorem dX10_readItem_259 : decode cX10_readItem 259 = .ok (.getfield 80, 3) := by decide +kernel
theorem dX10_readItem_262 : decode cX10_readItem 262 = .ok (.iadd, 1) := by decide +kernel
theorem dX10_readItem_263 : decode cX10_readItem 263 = .ok (.iload 5, 2) := by decide +kernel
theorem dX10_readItem_265 : decode cX10_readItem 265 = .ok (.iastore, 1) := by decide +kernel
theorem dX10_readItem_266 : decode cX10_readItem 266 = .ok (.aload_n 0, 1) := by decide +kernel
theorem dX10_readItem_267 : decode cX10_readItem 267 = .ok (.dup, 1) := by decide +kernel
theorem dX10_readItem_268 : decode cX10_readItem 268 = .ok (.getfield 80, 3) := by decide +kernel
theorem dX10_readItem_271 : decode cX10_readItem 271 = .ok (.iconst 1, 1) := by decide +kernel
theorem dX10_readItem_272 : decode cX10_readItem 272 = .ok (.iadd, 1) := by decide +kernel
theorem dX10_readItem_273 : decode cX10_readItem 273 = .ok (.putfield 80, 3) := by decide +kernel
theorem dX10_readItem_276 : decode cX10_readItem 276 = .ok (.goto 97, 3) := by decide +kernel
theorem dX10_readItem_279 : decode cX10_readItem 279 = .ok (.iload_n 1, 1) := by decide +kernel
theorem dX10_readItem_280 : decode cX10_readItem 280 = .ok (.bipush 109, 2) := by decide +kernel
theorem dX10_readItem_282 : decode cX10_readItem 282 = .ok (.if_icmp .ne 86, 3) := by decide +kernel
theorem dX10_readItem_285 : decode cX10_readItem 285 = .ok (.aload_n 0, 1) := by decide +kernel
theorem dX10_readItem_286 : decode cX10_readItem 286 = .ok (.aload_n 0, 1) := by decide +kernel
theorem dX10_readItem_287 : decode cX10_readItem 287 = .ok (.getfield 20, 3) := by decide +kernel
theorem dX10_readItem_290 : decode cX10_readItem 290 = .ok (.iconst 1, 1) := by decide +kernel
theorem dX10_readItem_291 : decode cX10_readItem 291 = .ok (.iaload, 1) := by decide +kernel
theorem dX10_readItem_292 : decode cX10_readItem 292 = .ok (.iconst 5, 1) := by decide +kernel
theorem dX10_readItem_293 : decode cX10_readItem 293 = .ok (.if_icmp .ge 7, 3) := by decide +kernel
theorem dX10_readItem_296 : decode cX10_readItem 296 = .ok (.iconst 1, 1) := by decide +kernel
theorem dX10_readItem_297 : decode cX10_readItem 297 = .ok (.goto 4, 3) := by decide +kernel
theorem dX10_readItem_300 : decode cX10_readItem 300 = .ok (.iconst 0, 1) := by decide +kernel
theorem dX10_readItem_301 : decode cX10_readItem 301 = .ok (.putfield 76, 3) := by decide +kernel
theorem dX10_readItem_304 : decode cX10_readItem 304 = .ok (.aload_n 0, 1) := by decide +kernel
theorem dX10_readItem_305 : decode cX10_readItem 305 = .ok (.iconst 0, 1) := by decide +kernel
theorem dX10_readItem_306 : decode cX10_readItem 306 = .ok (.bipush 99, 2) := by decide +kernel
theorem dX10_readItem_308 : decode cX10_readItem 308 = .ok (.bipush 44, 2) := by decide +kernel
theorem dX10_readItem_310 : decode cX10_readItem 310 = .ok (.invokevirtual 83, 3) := by decide +kernel
theorem dX10_readItem_313 : decode cX10_readItem 313 = .ok (.istore_n 2, 1) := by decide +kernel
theorem dX10_readItem_314 : decode cX10_readItem 314 = .ok (.aload_n 0, 1) := by decide +kernel
theorem dX10_readItem_315 : decode cX10_readItem 315 = .ok (.iconst 0, 1) := by decide +kernel
theorem dX10_readItem_316 : decode cX10_readItem 316 = .ok (.iconst 4, 1) := by decide +kernel
theorem dX10_readItem_317 : decode cX10_readItem 317 = .ok (.bipush 44, 2) := by decide +kernel
theorem dX10_readItem_319 : decode cX10_readItem 319 = .ok (.invokevirtual 83, 3) := by decide +kernel
theorem dX10_readItem_322 : decode cX10_readItem 322 = .ok (.istore_n 3, 1) := by decide +kernel
theorem dX10_readItem_323 : decode cX10_readItem 323 = .ok (.aload_n 0, 1) := by decide +kernel
theorem dX10_readItem_324 : decode cX10_readItem 324 = .ok (.iconst 0, 1) := by decide +kernel
theorem dX10_readItem_325 : decode cX10_readItem 325 = .ok (.iconst 4, 1) := by decide +kernel
theorem dX10_readItem_326 : decode cX10_readItem 326 = .ok (.bipush 59, 2) := by decide +kernel
theorem dX10_readItem_328 : decode cX10_readItem 328 = .ok (.invokevirtual 83, 3) := by decide +kernel
theorem dX10_readItem_331 : decode cX10_readItem 331 = .ok (.istore 4, 2) := by decide +kernel
theorem dX10_readItem_333 : decode cX10_readItem 333 = .ok (.aload_n 0, 1) := by decide +kernel
theorem dX10_readItem_334 : decode cX10_readItem 334 = .ok (.getfield 76, 3) := by decide +kernel
theorem dX10_readItem_337 : decode cX10_readItem 337 = .ok (.ifCond .eq 28, 3) := by decide +kernel
theorem dX10_readItem_340 : decode cX10_readItem 340 = .ok (.aload_n 0, 1) := by decide +kernel
theorem dX10_readItem_341 : decode cX10_readItem 341 = .ok (.iconst 1, 1) := by decide +kernel
theorem dX10_readItem_342 : decode cX10_readItem 342 = .ok (.aload_n 0, 1) := by decide +kernel
theorem dX10_readItem_343 : decode cX10_readItem 343 = .ok (.getfield 20, 3) := by decide +kernel
theorem dX10_readItem_346 : decode cX10_readItem 346 = .ok (.iconst 1, 1) := by decide +kernel
theorem dX10_readItem_347 : decode cX10_readItem 347 = .ok (.iaload, 1) := by decide +kernel
theorem dX10_readItem_348 : decode cX10_readItem 348 = .ok (.iload_n 2, 1) := by decide +kernel
theorem dX10_readItem_349 : decode cX10_readItem 349 = .ok (.iload_n 3, 1) := by decide +kernel
theorem dX10_readItem_350 : decode cX10_readItem 350 = .ok (.iload 4, 2) := by decide +kernel
theorem dX10_readItem_352 : decode cX10_readItem 352 = .ok (.invokevirtual 58, 3) := by decide +kernel
theorem dX10_readItem_355 : decode cX10_readItem 355 = .ok (.aload_n 0, 1) := by decide +kernel
theorem dX10_readItem_356 : decode cX10_readItem 356 = .ok (.getfield 20, 3) := by decide +kernel
theorem dX10_readItem_359 : decode cX10_readItem 359 = .ok (.iconst 1, 1) := by decide +kernel
theorem dX10_readItem_360 : decode cX10_readItem 360 = .ok (.dup2, 1) := by decide +kernel
theorem dX10_readItem_361 : decode cX10_readItem 361 = .ok (.iaload, 1) := by decide +kernel
theorem dX10_readItem_362 : decode cX10_readItem 362 = .ok (.iconst 1, 1) := by decide +kernel
theorem dX10_readItem_363 : decode cX10_readItem 363 = .ok (.iadd, 1) := by decide +kernel
theorem dX10_readItem_364 : decode cX10_readItem 364 = .ok (.iastore, 1) := by decide +kernel
theorem dX10_readItem_365 : decode cX10_readItem 365 = .ok (.goto 8, 3) := by decide +kernel
theorem dX10_readItem_368 : decode cX10_readItem 368 = .ok (.aload_n 0, 1) := by decide +kernel
theorem dX10_readItem_369 : decode cX10_readItem 369 = .ok (.iconst 0, 1) := by decide +kernel
theorem dX10_readItem_370 : decode cX10_readItem 370 = .ok (.putfield 76, 3) := by decide +kernel
theorem dX10_readItem_373 : decode cX10_readItem 373 = .ok (.return_, 1) := by decide +kernel
theorem dX10_fault_0 : decode cX10_fault 0 = .ok (.aload_n 0, 1) := by decide +kernel
theorem dX10_fault_1 : decode cX10_fault 1 = .ok (.iconst 0, 1) := by decide +kernel
theorem dX10_fault_2 : decode cX10_fault 2 = .ok (.putfield 69, 3) := by decide +kernel
theorem dX10_fault_5 : decode cX10_fault 5 = .ok (.aload_n 0, 1) := by decide +kernel
theorem dX10_fault_6 : decode cX10_fault 6 = .ok (.getfield 13, 3) := by decide +kernel
theorem dX10_fault_9 : decode cX10_fault 9 = .ok (.iconst 1, 1) := by decide +kernel
theorem dX10_fault_10 : decode cX10_fault 10 = .ok (.iconst 5, 1) := by decide +kernel
theorem dX10_fault_11 : decode cX10_fault 11 = .ok (.iastore, 1) := by decide +kernel
theorem dX10_fault_12 : decode cX10_fault 12 = .ok (.aload_n 0, 1) := by decide +kernel
theorem dX10_fault_13 : decode cX10_fault 13 = .ok (.getfield 17, 3) := by decide +kernel
theorem dX10_fault_16 : decode cX10_fault 16 = .ok (.iconst 1, 1) := by decide +kernel
theorem dX10_fault_17 : decode cX10_fault 17 = .ok (.iconst 5, 1) := by decide +kernel
theorem dX10_fault_18 : decode cX10_fault 18 = .ok (.iastore, 1) := by decide +kernel
theorem dX10_fault_19 : decode cX10_fault 19 = .ok (.aload_n 0, 1) := by decide +kernel
theorem dX10_fault_20 : decode cX10_fault 20 = .ok (.getfield 20, 3) := by decide +kernel
theorem dX10_fault_23 : decode cX10_fault 23 = .ok (.iconst 1, 1) := by decide +kernel
theorem dX10_fault_24 : decode cX10_fault 24 = .ok (.iconst 0, 1) := by decide +kernel
theorem dX10_fault_25 : decode cX10_fault 25 = .ok (.iastore, 1) := by decide +kernel
theorem dX10_fault_26 : decode cX10_fault 26 = .ok (.aload_n 0, 1) := by decide +kernel
theorem dX10_fault_27 : decode cX10_fault 27 = .ok (.iconst 0, 1) := by decide +kernel
theorem dX10_fault_28 : decode cX10_fault 28 = .ok (.putfield 80, 3) := by decide +kernel
theorem dX10_fault_31 : decode cX10_fault 31 = .ok (.aload_n 0, 1) := by decide +kernel
theorem dX10_fault_32 : decode cX10_fault 32 = .ok (.getfield 69, 3) := by decide +kernel
theorem dX10_fault_35 : decode cX10_fault 35 = .ok (.aload_n 0, 1) := by decide +kernel
theorem dX10_fault_36 : decode cX10_fault 36 = .ok (.getfield 65, 3) := by decide +kernel
theorem dX10_fault_39 : decode cX10_fault 39 = .ok (.if_icmp .ge 24, 3) := by decide +kernel
theorem dX10_fault_42 : decode cX10_fault 42 = .ok (.aload_n 0, 1) := by decide +kernel
theorem dX10_fault_43 : decode cX10_fault 43 = .ok (.getfield 69, 3) := by decide +kernel
theorem dX10_fault_46 : decode cX10_fault 46 = .ok (.istore_n 1, 1) := by decide +kernel
theorem dX10_fault_47 : decode cX10_fault 47 = .ok (.aload_n 0, 1) := by decide +kernel
theorem dX10_fault_48 : decode cX10_fault 48 = .ok (.invokevirtual 91, 3) := by decide +kernel
theorem dX10_fault_51 : decode cX10_fault 51 = .ok (.aload_n 0, 1) := by decide +kernel
theorem dX10_fault_52 : decode cX10_fault 52 = .ok (.getfield 76, 3) := by decide +kernel
theorem dX10_fault_55 : decode cX10_fault 55 = .ok (.ifCond .ne 5, 3) := by decide +kernel
theorem dX10_fault_58 : decode cX10_fault 58 = .ok (.iload_n 1, 1) := by decide +kernel
theorem dX10_fault_59 : decode cX10_fault 59 = .ok (.ireturn, 1) := by decide +kernel
theorem dX10_fault_60 : decode cX10_fault 60 = .ok (.goto (-29), 3) := by decide +kernel
theorem dX10_fault_63 : decode cX10_fault 63 = .ok (.bipush (-4), 2) := by decide +kernel
theorem dX10_fault_65 : decode cX10_fault 65 = .ok (.ireturn, 1) := by decide +kernel
theorem dX10_lay_0 : decode cX10_lay 0 = .ok (.aload_n 0, 1) := by decide +kernel
theorem dX10_lay_1 : decode cX10_lay 1 = .ok (.invokevirtual 94, 3) := by decide +kernel
theorem dX10_lay_4 : decode cX10_lay 4 = .ok (.bipush (-4), 2) := by decide +kernel
theorem dX10_lay_6 : decode cX10_lay 6 = .ok (.if_icmp .ne 10, 3) := by decide +kernel
theorem dX10_lay_9 : decode cX10_lay 9 = .ok (.aload_n 0, 1) := by decide +kernel
theorem dX10_lay_10 : decode cX10_lay 10 = .ok (.getfield 80, 3) := by decide +kernel
theorem dX10_lay_13 : decode cX10_lay 13 = .ok (.ifCond .ne 6, 3) := by decide +kernel
theorem dX10_lay_16 : decode cX10_lay 16 = .ok (.bipush (-2), 2) := by decide +kernel
theorem dX10_lay_18 : decode cX10_lay 18 = .ok (.ireturn, 1) := by decide +kernel
theorem dX10_lay_19 : decode cX10_lay 19 = .ok (.aload_n 0, 1) := by decide +kernel
theorem dX10_lay_20 : decode cX10_lay 20 = .ok (.getfield 13, 3) := by decide +kernel
theorem dX10_lay_23 : decode cX10_lay 23 = .ok (.iconst 0, 1) := by decide +kernel
theorem dX10_lay_24 : decode cX10_lay 24 = .ok (.aload_n 0, 1) := by decide +kernel
theorem dX10_lay_25 : decode cX10_lay 25 = .ok (.getfield 13, 3) := by decide +kernel
theorem dX10_lay_28 : decode cX10_lay 28 = .ok (.iconst 1, 1) := by decide +kernel
theorem dX10_lay_29 : decode cX10_lay 29 = .ok (.iaload, 1) := by decide +kernel
theorem dX10_lay_30 : decode cX10_lay 30 = .ok (.iastore, 1) := by decide +kernel
theorem dX10_lay_31 : decode cX10_lay 31 = .ok (.aload_n 0, 1) := by decide +kernel
theorem dX10_lay_32 : decode cX10_lay 32 = .ok (.getfield 17, 3) := by decide +kernel
theorem dX10_lay_35 : decode cX10_lay 35 = .ok (.iconst 0, 1) := by decide +kernel
theorem dX10_lay_36 : decode cX10_lay 36 = .ok (.aload_n 0, 1) := by decide +kernel
theorem dX10_lay_37 : decode cX10_lay 37 = .ok (.getfield 17, 3) := by decide +kernel
theorem dX10_lay_40 : decode cX10_lay 40 = .ok (.iconst 1, 1) := by decide +kernel
theorem dX10_lay_41 : decode cX10_lay 41 = .ok (.iaload, 1) := by decide +kernel
theorem dX10_lay_42 : decode cX10_lay 42 = .ok (.iastore, 1) := by decide +kernel
theorem dX10_lay_43 : decode cX10_lay 43 = .ok (.aload_n 0, 1) := by decide +kernel
theorem dX10_lay_44 : decode cX10_lay 44 = .ok (.getfield 20, 3) := by decide +kernel
theorem dX10_lay_47 : decode cX10_lay 47 = .ok (.iconst 0, 1) := by decide +kernel
theorem dX10_lay_48 : decode cX10_lay 48 = .ok (.aload_n 0, 1) := by decide +kernel
theorem dX10_lay_49 : decode cX10_lay 49 = .ok (.getfield 20, 3) := by decide +kernel
theorem dX10_lay_52 : decode cX10_lay 52 = .ok (.iconst 1, 1) := by decide +kernel
theorem dX10_lay_53 : decode cX10_lay 53 = .ok (.iaload, 1) := by decide +kernel
theorem dX10_lay_54 : decode cX10_lay 54 = .ok (.iastore, 1) := by decide +kernel
theorem dX10_lay_55 : decode cX10_lay 55 = .ok (.iconst 0, 1) := by decide +kernel
theorem dX10_lay_56 : decode cX10_lay 56 = .ok (.istore_n 1, 1) := by decide +kernel
theorem dX10_lay_57 : decode cX10_lay 57 = .ok (.iload_n 1, 1) := by decide +kernel
theorem dX10_lay_58 : decode cX10_lay 58 = .ok (.aload_n 0, 1) := by decide +kernel
theorem dX10_lay_59 : decode cX10_lay 59 = .ok (.getfield 20, 3) := by decide +kernel
theorem dX10_lay_62 : decode cX10_lay 62 = .ok (.iconst 0, 1) := by decide +kernel
theorem dX10_lay_63 : decode cX10_lay 63 = .ok (.iaload, 1) := by decide +kernel
theorem dX10_lay_64 : decode cX10_lay 64 = .ok (.if_icmp .ge 39, 3) := by decide +kernel
theorem dX10_lay_67 : decode cX10_lay 67 = .ok (.aload_n 0, 1) := by decide +kernel
theorem dX10_lay_68 : decode cX10_lay 68 = .ok (.iconst 0, 1) := by decide +kernel
theorem dX10_lay_69 : decode cX10_lay 69 = .ok (.iload_n 1, 1) := by decide +kernel
theorem dX10_lay_70 : decode cX10_lay 70 = .ok (.aload_n 0, 1) := by decide +kernel
theorem dX10_lay_71 : decode cX10_lay 71 = .ok (.getfield 23, 3) := by decide +kernel
theorem dX10_lay_74 : decode cX10_lay 74 = .ok (.iconst 5, 1) := by decide +kernel
theorem dX10_lay_75 : decode cX10_lay 75 = .ok (.iload_n 1, 1) := by decide +kernel
theorem dX10_lay_76 : decode cX10_lay 76 = .ok (.iadd, 1) := by decide +kernel
theorem dX10_lay_77 : decode cX10_lay 77 = .ok (.iaload, 1) := by decide +kernel
theorem dX10_lay_78 : decode cX10_lay 78 = .ok (.aload_n 0, 1) := by decide +kernel
theorem dX10_lay_79 : decode cX10_lay 79 = .ok (.getfield 26, 3) := by decide +kernel
theorem dX10_lay_82 : decode cX10_lay 82 = .ok (.iconst 5, 1) := by decide +kernel
theorem dX10_lay_83 : decode cX10_lay 83 = .ok (.iload_n 1, 1) := by decide +kernel
theorem dX10_lay_84 : decode cX10_lay 84 = .ok (.iadd, 1) := by decide +kernel
theorem dX10_lay_85 : decode cX10_lay 85 = .ok (.iaload, 1) := by decide +kernel
theorem dX10_lay_86 : decode cX10_lay 86 = .ok (.aload_n 0, 1) := by decide +kernel
theorem dX10_lay_87 : decode cX10_lay 87 = .ok (.getfield 29, 3) := by decide +kernel
theorem dX10_lay_90 : decode cX10_lay 90 = .ok (.iconst 5, 1) := by decide +kernel
theorem dX10_lay_91 : decode cX10_lay 91 = .ok (.iload_n 1, 1) := by decide +kernel
theorem dX10_lay_92 : decode cX10_lay 92 = .ok (.iadd, 1) := by decide +kernel
theorem dX10_lay_93 : decode cX10_lay 93 = .ok (.iaload, 1) := by decide +kernel
theorem dX10_lay_94 : decode cX10_lay 94 = .ok (.invokevirtual 58, 3) := by decide +kernel
theorem dX10_lay_97 : decode cX10_lay 97 = .ok (.iinc 1 1, 3) := by decide +kernel
theorem dX10_lay_100 : decode cX10_lay 100 = .ok (.goto (-43), 3) := by decide +kernel
theorem dX10_lay_103 : decode cX10_lay 103 = .ok (.aload_n 0, 1) := by decide +kernel
theorem dX10_lay_104 : decode cX10_lay 104 = .ok (.getfield 35, 3) := by decide +kernel
theorem dX10_lay_107 : decode cX10_lay 107 = .ok (.iconst 0, 1) := by decide +kernel
theorem dX10_lay_108 : decode cX10_lay 108 = .ok (.iconst 0, 1) := by decide +kernel
theorem dX10_lay_109 : decode cX10_lay 109 = .ok (.iastore, 1) := by decide +kernel
theorem dX10_lay_110 : decode cX10_lay 110 = .ok (.aload_n 0, 1) := by decide +kernel
theorem dX10_lay_111 : decode cX10_lay 111 = .ok (.getfield 35, 3) := by decide +kernel
theorem dX10_lay_114 : decode cX10_lay 114 = .ok (.iconst 1, 1) := by decide +kernel
theorem dX10_lay_115 : decode cX10_lay 115 = .ok (.aload_n 0, 1) := by decide +kernel
theorem dX10_lay_116 : decode cX10_lay 116 = .ok (.getfield 80, 3) := by decide +kernel
theorem dX10_lay_119 : decode cX10_lay 119 = .ok (.iastore, 1) := by decide +kernel
theorem dX10_lay_120 : decode cX10_lay 120 = .ok (.iconst 0, 1) := by decide +kernel
theorem dX10_lay_121 : decode cX10_lay 121 = .ok (.istore_n 1, 1) := by decide +kernel
theorem dX10_lay_122 : decode cX10_lay 122 = .ok (.iload_n 1, 1) := by decide +kernel
theorem dX10_lay_123 : decode cX10_lay 123 = .ok (.bipush 40, 2) := by decide +kernel
theorem dX10_lay_125 : decode cX10_lay 125 = .ok (.if_icmp .ge 23, 3) := by decide +kernel
theorem dX10_lay_128 : decode cX10_lay 128 = .ok (.aload_n 0, 1) := by decide +kernel
theorem dX10_lay_129 : decode cX10_lay 129 = .ok (.getfield 35, 3) := by decide +kernel
theorem dX10_lay_132 : decode cX10_lay 132 = .ok (.iconst 2, 1) := by decide +kernel
theorem dX10_lay_133 : decode cX10_lay 133 = .ok (.iload_n 1, 1) := by decide +kernel
theorem dX10_lay_134 : decode cX10_lay 134 = .ok (.iadd, 1) := by decide +kernel
theorem dX10_lay_135 : decode cX10_lay 135 = .ok (.aload_n 0, 1) := by decide +kernel
theorem dX10_lay_136 : decode cX10_lay 136 = .ok (.getfield 32, 3) := by decide +kernel
theorem dX10_lay_139 : decode cX10_lay 139 = .ok (.iload_n 1, 1) := by decide +kernel
theorem dX10_lay_140 : decode cX10_lay 140 = .ok (.iaload, 1) := by decide +kernel
theorem dX10_lay_141 : decode cX10_lay 141 = .ok (.iastore, 1) := by decide +kernel
theorem dX10_lay_142 : decode cX10_lay 142 = .ok (.iinc 1 1, 3) := by decide +kernel
theorem dX10_lay_145 : decode cX10_lay 145 = .ok (.goto (-23), 3) := by decide +kernel
theorem dX10_lay_148 : decode cX10_lay 148 = .ok (.aload_n 0, 1) := by decide +kernel
theorem dX10_lay_149 : decode cX10_lay 149 = .ok (.iconst 0, 1) := by decide +kernel
theorem dX10_lay_150 : decode cX10_lay 150 = .ok (.putfield 97, 3) := by decide +kernel
theorem dX10_lay_153 : decode cX10_lay 153 = .ok (.aload_n 0, 1) := by decide +kernel
theorem dX10_lay_154 : decode cX10_lay 154 = .ok (.iconst 0, 1) := by decide +kernel
theorem dX10_lay_155 : decode cX10_lay 155 = .ok (.putfield 100, 3) := by decide +kernel
theorem dX10_lay_158 : decode cX10_lay 158 = .ok (.aload_n 0, 1) := by decide +kernel
theorem dX10_lay_159 : decode cX10_lay 159 = .ok (.iconst 0, 1) := by decide +kernel
theorem dX10_lay_160 : decode cX10_lay 160 = .ok (.putfield 103, 3) := by decide +kernel
theorem dX10_lay_163 : decode cX10_lay 163 = .ok (.aload_n 0, 1) := by decide +kernel
theorem dX10_lay_164 : decode cX10_lay 164 = .ok (.iconst 0, 1) := by decide +kernel
theorem dX10_lay_165 : decode cX10_lay 165 = .ok (.invokevirtual 87, 3) := by decide +kernel
theorem dX10_lay_168 : decode cX10_lay 168 = .ok (.ireturn, 1) := by decide +kernel
theorem dX10_copy_0 : decode cX10_copy 0 = .ok (.iconst 0, 1) := by decide +kernel
theorem dX10_copy_1 : decode cX10_copy 1 = .ok (.istore_n 3, 1) := by decide +kernel
theorem dX10_copy_2 : decode cX10_copy 2 = .ok (.iload_n 3, 1) := by decide +kernel
theorem dX10_copy_3 : decode cX10_copy 3 = .ok (.bipush 42, 2) := by decide +kernel
theorem dX10_copy_5 : decode cX10_copy 5 = .ok (.if_icmp .ge 25, 3) := by decide +kernel
theorem dX10_copy_8 : decode cX10_copy 8 = .ok (.aload_n 0, 1) := by decide +kernel
theorem dX10_copy_9 : decode cX10_copy 9 = .ok (.getfield 35, 3) := by decide +kernel
theorem dX10_copy_12 : decode cX10_copy 12 = .ok (.iload_n 2, 1) := by decide +kernel
theorem dX10_copy_13 : decode cX10_copy 13 = .ok (.iload_n 3, 1) := by decide +kernel
theorem dX10_copy_14 : decode cX10_copy 14 = .ok (.iadd, 1) := by decide +kernel
theorem dX10_copy_15 : decode cX10_copy 15 = .ok (.aload_n 0, 1) := by decide +kernel
theorem dX10_copy_16 : decode cX10_copy 16 = .ok (.getfield 35, 3) := by decide +kernel
theorem dX10_copy_19 : decode cX10_copy 19 = .ok (.iload_n 1, 1) := by decide +kernel
theorem dX10_copy_20 : decode cX10_copy 20 = .ok (.iload_n 3, 1) := by decide +kernel
theorem dX10_copy_21 : decode cX10_copy 21 = .ok (.iadd, 1) := by decide +kernel
theorem dX10_copy_22 : decode cX10_copy 22 = .ok (.iaload, 1) := by decide +kernel
theorem dX10_copy_23 : decode cX10_copy 23 = .ok (.iastore, 1) := by decide +kernel
theorem dX10_copy_24 : decode cX10_copy 24 = .ok (.iinc 3 1, 3) := by decide +kernel
theorem dX10_copy_27 : decode cX10_copy 27 = .ok (.goto (-25), 3) := by decide +kernel
theorem dX10_copy_30 : decode cX10_copy 30 = .ok (.return_, 1) := by decide +kernel
theorem dX10_isCell_0 : decode cX10_isCell 0 = .ok (.iload_n 1, 1) := by decide +kernel
theorem dX10_isCell_1 : decode cX10_isCell 1 = .ok (.iconst 0, 1) := by decide +kernel
theorem dX10_isCell_2 : decode cX10_isCell 2 = .ok (.aload_n 0, 1) := by decide +kernel
theorem dX10_isCell_3 : decode cX10_isCell 3 = .ok (.iconst 0, 1) := by decide +kernel
theorem dX10_isCell_4 : decode cX10_isCell 4 = .ok (.invokevirtual 87, 3) := by decide +kernel
theorem dX10_isCell_7 : decode cX10_isCell 7 = .ok (.iconst 1, 1) := by decide +kernel
theorem dX10_isCell_8 : decode cX10_isCell 8 = .ok (.isub, 1) := by decide +kernel
theorem dX10_isCell_9 : decode cX10_isCell 9 = .ok (.invokestatic 61, 3) := by decide +kernel
theorem dX10_isCell_12 : decode cX10_isCell 12 = .ok (.ireturn, 1) := by decide +kernel
theorem dX10_isThing_0 : decode cX10_isThing 0 = .ok (.iload_n 1, 1) := by decide +kernel
theorem dX10_isThing_1 : decode cX10_isThing 1 = .ok (.iconst 0, 1) := by decide +kernel
theorem dX10_isThing_2 : decode cX10_isThing 2 = .ok (.aload_n 0, 1) := by decide +kernel
theorem dX10_isThing_3 : decode cX10_isThing 3 = .ok (.getfield 35, 3) := by decide +kernel
theorem dX10_isThing_6 : decode cX10_isThing 6 = .ok (.iconst 1, 1) := by decide +kernel
theorem dX10_isThing_7 : decode cX10_isThing 7 = .ok (.iaload, 1) := by decide +kernel
theorem dX10_isThing_8 : decode cX10_isThing 8 = .ok (.iconst 1, 1) := by decide +kernel
theorem dX10_isThing_9 : decode cX10_isThing 9 = .ok (.isub, 1) := by decide +kernel
theorem dX10_isThing_10 : decode cX10_isThing 10 = .ok (.invokestatic 61, 3) := by decide +kernel
theorem dX10_isThing_13 : decode cX10_isThing 13 = .ok (.ireturn, 1) := by decide +kernel
theorem dX10_isMap_0 : decode cX10_isMap 0 = .ok (.iload_n 1, 1) := by decide +kernel
theorem dX10_isMap_1 : decode cX10_isMap 1 = .ok (.iconst 0, 1) := by decide +kernel
theorem dX10_isMap_2 : decode cX10_isMap 2 = .ok (.aload_n 0, 1) := by decide +kernel
theorem dX10_isMap_3 : decode cX10_isMap 3 = .ok (.getfield 20, 3) := by decide +kernel
theorem dX10_isMap_6 : decode cX10_isMap 6 = .ok (.iconst 0, 1) := by decide +kernel
theorem dX10_isMap_7 : decode cX10_isMap 7 = .ok (.iaload, 1) := by decide +kernel
theorem dX10_isMap_8 : decode cX10_isMap 8 = .ok (.iconst 1, 1) := by decide +kernel
theorem dX10_isMap_9 : decode cX10_isMap 9 = .ok (.isub, 1) := by decide +kernel
theorem dX10_isMap_10 : decode cX10_isMap 10 = .ok (.invokestatic 61, 3) := by decide +kernel
theorem dX10_isMap_13 : decode cX10_isMap 13 = .ok (.ireturn, 1) := by decide +kernel
theorem dX10_stands_0 : decode cX10_stands 0 = .ok (.aload_n 0, 1) := by decide +kernel
theorem dX10_stands_1 : decode cX10_stands 1 = .ok (.getfield 35, 3) := by decide +kernel
theorem dX10_stands_4 : decode cX10_stands 4 = .ok (.iload_n 1, 1) := by decide +kernel
theorem dX10_stands_5 : decode cX10_stands 5 = .ok (.bipush 12, 2) := by decide +kernel
theorem dX10_stands_7 : decode cX10_stands 7 = .ok (.iadd, 1) := by decide +kernel
theorem dX10_stands_8 : decode cX10_stands 8 = .ok (.iload_n 2, 1) := by decide +kernel
theorem dX10_stands_9 : decode cX10_stands 9 = .ok (.iadd, 1) := by decide +kernel
theorem dX10_stands_10 : decode cX10_stands 10 = .ok (.iaload, 1) := by decide +kernel
theorem dX10_stands_11 : decode cX10_stands 11 = .ok (.iload_n 3, 1) := by decide +kernel
theorem dX10_stands_12 : decode cX10_stands 12 = .ok (.if_icmp .gt 22, 3) := by decide +kernel
theorem dX10_stands_15 : decode cX10_stands 15 = .ok (.iload_n 3, 1) := by decide +kernel
theorem dX10_stands_16 : decode cX10_stands 16 = .ok (.aload_n 0, 1) := by decide +kernel
theorem dX10_stands_17 : decode cX10_stands 17 = .ok (.getfield 35, 3) := by decide +kernel
theorem dX10_stands_20 : decode cX10_stands 20 = .ok (.iload_n 1, 1) := by decide +kernel
theorem dX10_stands_21 : decode cX10_stands 21 = .ok (.bipush 22, 2) := by decide +kernel
theorem dX10_stands_23 : decode cX10_stands 23 = .ok (.iadd, 1) := by decide +kernel
theorem dX10_stands_24 : decode cX10_stands 24 = .ok (.iload_n 2, 1) := by decide +kernel
theorem dX10_stands_25 : decode cX10_stands 25 = .ok (.iadd, 1) := by decide +kernel
theorem dX10_stands_26 : decode cX10_stands 26 = .ok (.iaload, 1) := by decide +kernel
theorem dX10_stands_27 : decode cX10_stands 27 = .ok (.if_icmp .ge 7, 3) := by decide +kernel
theorem dX10_stands_30 : decode cX10_stands 30 = .ok (.iconst 1, 1) := by decide +kernel
theorem dX10_stands_31 : decode cX10_stands 31 = .ok (.goto 4, 3) := by decide +kernel
theorem dX10_stands_34 : decode cX10_stands 34 = .ok (.iconst 0, 1) := by decide +kernel
theorem dX10_stands_35 : decode cX10_stands 35 = .ok (.ireturn, 1) := by decide +kernel
theorem dX10_isLost_0 : decode cX10_isLost 0 = .ok (.aload_n 0, 1) := by decide +kernel
theorem dX10_isLost_1 : decode cX10_isLost 1 = .ok (.getfield 35, 3) := by decide +kernel
theorem dX10_isLost_4 : decode cX10_isLost 4 = .ok (.iload_n 1, 1) := by decide +kernel
theorem dX10_isLost_5 : decode cX10_isLost 5 = .ok (.bipush 22, 2) := by decide +kernel
theorem dX10_isLost_7 : decode cX10_isLost 7 = .ok (.iadd, 1) := by decide +kernel
theorem dX10_isLost_8 : decode cX10_isLost 8 = .ok (.iload_n 2, 1) := by decide +kernel
theorem dX10_isLost_9 : decode cX10_isLost 9 = .ok (.iadd, 1) := by decide +kernel
theorem dX10_isLost_10 : decode cX10_isLost 10 = .ok (.iaload, 1) := by decide +kernel
theorem dX10_isLost_11 : decode cX10_isLost 11 = .ok (.iload_n 3, 1) := by decide +kernel
theorem dX10_isLost_12 : decode cX10_isLost 12 = .ok (.if_icmp .gt 7, 3) := by decide +kernel
theorem dX10_isLost_15 : decode cX10_isLost 15 = .ok (.iconst 1, 1) := by decide +kernel
theorem dX10_isLost_16 : decode cX10_isLost 16 = .ok (.goto 4, 3) := by decide +kernel
theorem dX10_isLost_19 : decode cX10_isLost 19 = .ok (.iconst 0, 1) := by decide +kernel
theorem dX10_isLost_20 : decode cX10_isLost 20 = .ok (.ireturn, 1) := by decide +kernel
theorem dX10_thing_0 : decode cX10_thing 0 = .ok (.aload_n 0, 1) := by decide +kernel
theorem dX10_thing_1 : decode cX10_thing 1 = .ok (.iload_n 1, 1) := by decide +kernel
theorem dX10_thing_2 : decode cX10_thing 2 = .ok (.invokevirtual 106, 3) := by decide +kernel
theorem dX10_thing_5 : decode cX10_thing 5 = .ok (.ifCond .eq 12, 3) := by decide +kernel
theorem dX10_thing_8 : decode cX10_thing 8 = .ok (.iload_n 2, 1) := by decide +kernel
theorem dX10_thing_9 : decode cX10_thing 9 = .ok (.iconst 0, 1) := by decide +kernel
theorem dX10_thing_10 : decode cX10_thing 10 = .ok (.iconst 5, 1) := by decide +kernel
theorem dX10_thing_11 : decode cX10_thing 11 = .ok (.invokestatic 61, 3) := by decide +kernel
theorem dX10_thing_14 : decode cX10_thing 14 = .ok (.ifCond .ne 5, 3) := by decide +kernel
theorem dX10_thing_17 : decode cX10_thing 17 = .ok (.iconst (-1), 1) := by decide +kernel
theorem dX10_thing_18 : decode cX10_thing 18 = .ok (.ireturn, 1) := by decide +kernel
theorem dX10_thing_19 : decode cX10_thing 19 = .ok (.iload_n 2, 1) := by decide +kernel
theorem dX10_thing_20 : decode cX10_thing 20 = .ok (.iconst 2, 1) := by decide +kernel
theorem dX10_thing_21 : decode cX10_thing 21 = .ok (.if_icmp .ne 20, 3) := by decide +kernel
theorem dX10_thing_24 : decode cX10_thing 24 = .ok (.aload_n 0, 1) := by decide +kernel
theorem dX10_thing_25 : decode cX10_thing 25 = .ok (.getfield 35, 3) := by decide +kernel
theorem dX10_thing_28 : decode cX10_thing 28 = .ok (.bipush 22, 2) := by decide +kernel
theorem dX10_thing_30 : decode cX10_thing 30 = .ok (.iload_n 1, 1) := by decide +kernel
theorem dX10_thing_31 : decode cX10_thing 31 = .ok (.iadd, 1) := by decide +kernel
theorem dX10_thing_32 : decode cX10_thing 32 = .ok (.iaload, 1) := by decide +kernel
theorem dX10_thing_33 : decode cX10_thing 33 = .ok (.ldc 57, 2) := by decide +kernel
theorem dX10_thing_35 : decode cX10_thing 35 = .ok (.if_icmp .ne 6, 3) := by decide +kernel
theorem dX10_thing_38 : decode cX10_thing 38 = .ok (.bipush 99, 2) := by decide +kernel
theorem dX10_thing_40 : decode cX10_thing 40 = .ok (.ireturn, 1) := by decide +kernel
theorem dX10_thing_41 : decode cX10_thing 41 = .ok (.iload_n 2, 1) := by decide +kernel
theorem dX10_thing_42 : decode cX10_thing 42 = .ok (.iconst 4, 1) := by decide +kernel
theorem dX10_thing_43 : decode cX10_thing 43 = .ok (.if_icmp .ge 19, 3) := by decide +kernel
theorem dX10_thing_46 : decode cX10_thing 46 = .ok (.aload_n 0, 1) := by decide +kernel
theorem dX10_thing_47 : decode cX10_thing 47 = .ok (.getfield 35, 3) := by decide +kernel
theorem dX10_thing_50 : decode cX10_thing 50 = .ok (.iconst 2, 1) := by decide +kernel
theorem dX10_thing_51 : decode cX10_thing 51 = .ok (.bipush 10, 2) := by decide +kernel
theorem dX10_thing_53 : decode cX10_thing 53 = .ok (.iload_n 2, 1) := by decide +kernel
theorem dX10_thing_54 : decode cX10_thing 54 = .ok (.imul, 1) := by decide +kernel
theorem dX10_thing_55 : decode cX10_thing 55 = .ok (.iadd, 1) := by decide +kernel
theorem dX10_thing_56 : decode cX10_thing 56 = .ok (.iload_n 1, 1) := by decide +kernel
theorem dX10_thing_57 : decode cX10_thing 57 = .ok (.iadd, 1) := by decide +kernel
theorem dX10_thing_58 : decode cX10_thing 58 = .ok (.iaload, 1) := by decide +kernel
theorem dX10_thing_59 : decode cX10_thing 59 = .ok (.goto 46, 3) := by decide +kernel
theorem dX10_thing_62 : decode cX10_thing 62 = .ok (.iload_n 2, 1) := by decide +kernel
theorem dX10_thing_63 : decode cX10_thing 63 = .ok (.iconst 4, 1) := by decide +kernel
theorem dX10_thing_64 : decode cX10_thing 64 = .ok (.if_icmp .ne 21, 3) := by decide +kernel
theorem dX10_thing_67 : decode cX10_thing 67 = .ok (.aload_n 0, 1) := by decide +kernel
theorem dX10_thing_68 : decode cX10_thing 68 = .ok (.iconst 0, 1) := by decide +kernel
theorem dX10_thing_69 : decode cX10_thing 69 = .ok (.iload_n 1, 1) := by decide +kernel
theorem dX10_thing_70 : decode cX10_thing 70 = .ok (.aload_n 0, 1) := by decide +kernel
theorem dX10_thing_71 : decode cX10_thing 71 = .ok (.getfield 35, 3) := by decide +kernel
theorem dX10_thing_74 : decode cX10_thing 74 = .ok (.iconst 0, 1) := by decide +kernel
theorem dX10_thing_75 : decode cX10_thing 75 = .ok (.iaload, 1) := by decide +kernel
theorem dX10_thing_76 : decode cX10_thing 76 = .ok (.invokevirtual 110, 3) := by decide +kernel
theorem dX10_thing_79 : decode cX10_thing 79 = .ok (.ifCond .eq 25, 3) := by decide +kernel
theorem dX10_thing_82 : decode cX10_thing 82 = .ok (.goto 18, 3) := by decide +kernel
theorem dX10_thing_85 : decode cX10_thing 85 = .ok (.aload_n 0, 1) := by decide +kernel
theorem dX10_thing_86 : decode cX10_thing 86 = .ok (.iconst 0, 1) := by decide +kernel
theorem dX10_thing_87 : decode cX10_thing 87 = .ok (.iload_n 1, 1) := by decide +kernel
theorem dX10_thing_88 : decode cX10_thing 88 = .ok (.aload_n 0, 1) := by decide +kernel
theorem dX10_thing_89 : decode cX10_thing 89 = .ok (.getfield 35, 3) := by decide +kernel
theorem dX10_thing_92 : decode cX10_thing 92 = .ok (.iconst 0, 1) := by decide +kernel
theorem dX10_thing_93 : decode cX10_thing 93 = .ok (.iaload, 1) := by decide +kernel
theorem dX10_thing_94 : decode cX10_thing 94 = .ok (.invokevirtual 113, 3) := by decide +kernel
theorem dX10_thing_97 : decode cX10_thing 97 = .ok (.ifCond .eq 7, 3) := by decide +kernel
theorem dX10_thing_100 : decode cX10_thing 100 = .ok (.iconst 1, 1) := by decide +kernel
theorem dX10_thing_101 : decode cX10_thing 101 = .ok (.goto 4, 3) := by decide +kernel
theorem dX10_thing_104 : decode cX10_thing 104 = .ok (.iconst 0, 1) := by decide +kernel
theorem dX10_thing_105 : decode cX10_thing 105 = .ok (.ireturn, 1) := by decide +kernel
theorem dX10_thingAt_0 : decode cX10_thingAt 0 = .ok (.bipush (-4), 2) := by decide +kernel
theorem dX10_thingAt_2 : decode cX10_thingAt 2 = .ok (.istore_n 2, 1) := by decide +kernel
theorem dX10_thingAt_3 : decode cX10_thingAt 3 = .ok (.iconst 0, 1) := by decide +kernel
theorem dX10_thingAt_4 : decode cX10_thingAt 4 = .ok (.istore_n 3, 1) := by decide +kernel
theorem dX10_thingAt_5 : decode cX10_thingAt 5 = .ok (.iload_n 3, 1) := by decide +kernel
theorem dX10_thingAt_6 : decode cX10_thingAt 6 = .ok (.aload_n 0, 1) := by decide +kernel
theorem dX10_thingAt_7 : decode cX10_thingAt 7 = .ok (.getfield 35, 3) := by decide +kernel
theorem dX10_thingAt_10 : decode cX10_thingAt 10 = .ok (.iconst 1, 1) := by decide +kernel
theorem dX10_thingAt_11 : decode cX10_thingAt 11 = .ok (.iaload, 1) := by decide +kernel
theorem dX10_thingAt_12 : decode cX10_thingAt 12 = .ok (.if_icmp .ge 27, 3) := by decide +kernel
theorem dX10_thingAt_15 : decode cX10_thingAt 15 = .ok (.aload_n 0, 1) := by decide +kernel
theorem dX10_thingAt_16 : decode cX10_thingAt 16 = .ok (.getfield 35, 3) := by decide +kernel
theorem dX10_thingAt_19 : decode cX10_thingAt 19 = .ok (.iconst 2, 1) := by decide +kernel
theorem dX10_thingAt_20 : decode cX10_thingAt 20 = .ok (.iload_n 3, 1) := by decide +kernel
theorem dX10_thingAt_21 : decode cX10_thingAt 21 = .ok (.iadd, 1) := by decide +kernel
theorem dX10_thingAt_22 : decode cX10_thingAt 22 = .ok (.iaload, 1) := by decide +kernel
theorem dX10_thingAt_23 : decode cX10_thingAt 23 = .ok (.iload_n 1, 1) := by decide +kernel
theorem dX10_thingAt_24 : decode cX10_thingAt 24 = .ok (.if_icmp .ne 7, 3) := by decide +kernel
theorem dX10_thingAt_27 : decode cX10_thingAt 27 = .ok (.iload_n 3, 1) := by decide +kernel
theorem dX10_thingAt_28 : decode cX10_thingAt 28 = .ok (.goto 4, 3) := by decide +kernel
theorem dX10_thingAt_31 : decode cX10_thingAt 31 = .ok (.iload_n 2, 1) := by decide +kernel
theorem dX10_thingAt_32 : decode cX10_thingAt 32 = .ok (.istore_n 2, 1) := by decide +kernel
theorem dX10_thingAt_33 : decode cX10_thingAt 33 = .ok (.iinc 3 1, 3) := by decide +kernel
theorem dX10_thingAt_36 : decode cX10_thingAt 36 = .ok (.goto (-31), 3) := by decide +kernel
theorem dX10_thingAt_39 : decode cX10_thingAt 39 = .ok (.iload_n 2, 1) := by decide +kernel
theorem dX10_thingAt_40 : decode cX10_thingAt 40 = .ok (.ireturn, 1) := by decide +kernel
theorem dX10_at_0 : decode cX10_at 0 = .ok (.aload_n 0, 1) := by decide +kernel
theorem dX10_at_1 : decode cX10_at 1 = .ok (.iload_n 1, 1) := by decide +kernel
theorem dX10_at_2 : decode cX10_at 2 = .ok (.invokevirtual 116, 3) := by decide +kernel
theorem dX10_at_5 : decode cX10_at 5 = .ok (.ifCond .eq 11, 3) := by decide +kernel
theorem dX10_at_8 : decode cX10_at 8 = .ok (.aload_n 0, 1) := by decide +kernel
theorem dX10_at_9 : decode cX10_at 9 = .ok (.iload_n 1, 1) := by decide +kernel
theorem dX10_at_10 : decode cX10_at 10 = .ok (.invokevirtual 119, 3) := by decide +kernel
theorem dX10_at_13 : decode cX10_at 13 = .ok (.goto 4, 3) := by decide +kernel
theorem dX10_at_16 : decode cX10_at 16 = .ok (.iconst (-1), 1) := by decide +kernel
theorem dX10_at_17 : decode cX10_at 17 = .ok (.ireturn, 1) := by decide +kernel
theorem dX10_taken_0 : decode cX10_taken 0 = .ok (.lconst 0, 1) := by decide +kernel
theorem dX10_taken_1 : decode cX10_taken 1 = .ok (.lstore_n 3, 1) := by decide +kernel
theorem dX10_taken_2 : decode cX10_taken 2 = .ok (.iconst 0, 1) := by decide +kernel
theorem dX10_taken_3 : decode cX10_taken 3 = .ok (.istore 5, 2) := by decide +kernel
theorem dX10_taken_5 : decode cX10_taken 5 = .ok (.iload 5, 2) := by decide +kernel
theorem dX10_taken_7 : decode cX10_taken 7 = .ok (.aload_n 0, 1) := by decide +kernel
theorem dX10_taken_8 : decode cX10_taken 8 = .ok (.getfield 35, 3) := by decide +kernel
theorem dX10_taken_11 : decode cX10_taken 11 = .ok (.iload_n 1, 1) := by decide +kernel
theorem dX10_taken_12 : decode cX10_taken 12 = .ok (.iconst 1, 1) := by decide +kernel
theorem dX10_taken_13 : decode cX10_taken 13 = .ok (.iadd, 1) := by decide +kernel
theorem dX10_taken_14 : decode cX10_taken 14 = .ok (.iaload, 1) := by decide +kernel
theorem dX10_taken_15 : decode cX10_taken 15 = .ok (.if_icmp .ge 40, 3) := by decide +kernel
theorem dX10_taken_18 : decode cX10_taken 18 = .ok (.lload_n 3, 1) := by decide +kernel
theorem dX10_taken_19 : decode cX10_taken 19 = .ok (.aload_n 0, 1) := by decide +kernel
theorem dX10_taken_20 : decode cX10_taken 20 = .ok (.iload_n 1, 1) := by decide +kernel
theorem dX10_taken_21 : decode cX10_taken 21 = .ok (.iload 5, 2) := by decide +kernel
theorem dX10_taken_23 : decode cX10_taken 23 = .ok (.iload_n 2, 1) := by decide +kernel
theorem dX10_taken_24 : decode cX10_taken 24 = .ok (.invokevirtual 110, 3) := by decide +kernel
theorem dX10_taken_27 : decode cX10_taken 27 = .ok (.ifCond .eq 19, 3) := by decide +kernel
theorem dX10_taken_30 : decode cX10_taken 30 = .ok (.lconst 1, 1) := by decide +kernel
theorem dX10_taken_31 : decode cX10_taken 31 = .ok (.aload_n 0, 1) := by decide +kernel
theorem dX10_taken_32 : decode cX10_taken 32 = .ok (.getfield 35, 3) := by decide +kernel
theorem dX10_taken_35 : decode cX10_taken 35 = .ok (.iload_n 1, 1) := by decide +kernel
theorem dX10_taken_36 : decode cX10_taken 36 = .ok (.iconst 2, 1) := by decide +kernel
theorem dX10_taken_37 : decode cX10_taken 37 = .ok (.iadd, 1) := by decide +kernel
theorem dX10_taken_38 : decode cX10_taken 38 = .ok (.iload 5, 2) := by decide +kernel
theorem dX10_taken_40 : decode cX10_taken 40 = .ok (.iadd, 1) := by decide +kernel
theorem dX10_taken_41 : decode cX10_taken 41 = .ok (.iaload, 1) := by decide +kernel
theorem dX10_taken_42 : decode cX10_taken 42 = .ok (.lshl, 1) := by decide +kernel
theorem dX10_taken_43 : decode cX10_taken 43 = .ok (.goto 4, 3) := by decide +kernel
theorem dX10_taken_46 : decode cX10_taken 46 = .ok (.lconst 0, 1) := by decide +kernel
theorem dX10_taken_47 : decode cX10_taken 47 = .ok (.lor, 1) := by decide +kernel
theorem dX10_taken_48 : decode cX10_taken 48 = .ok (.lstore_n 3, 1) := by decide +kernel
theorem dX10_taken_49 : decode cX10_taken 49 = .ok (.iinc 5 1, 3) := by decide +kernel
theorem dX10_taken_52 : decode cX10_taken 52 = .ok (.goto (-47), 3) := by decide +kernel
theorem dX10_taken_55 : decode cX10_taken 55 = .ok (.lload_n 3, 1) := by decide +kernel
theorem dX10_taken_56 : decode cX10_taken 56 = .ok (.lreturn, 1) := by decide +kernel
theorem dX10_free_0 : decode cX10_free 0 = .ok (.aload_n 0, 1) := by decide +kernel
theorem dX10_free_1 : decode cX10_free 1 = .ok (.iload_n 1, 1) := by decide +kernel
theorem dX10_free_2 : decode cX10_free 2 = .ok (.invokevirtual 116, 3) := by decide +kernel
theorem dX10_free_5 : decode cX10_free 5 = .ok (.ifCond .eq 14, 3) := by decide +kernel
theorem dX10_free_8 : decode cX10_free 8 = .ok (.iload_n 2, 1) := by decide +kernel
theorem dX10_free_9 : decode cX10_free 9 = .ok (.iconst 0, 1) := by decide +kernel
theorem dX10_free_10 : decode cX10_free 10 = .ok (.sipush 199, 3) := by decide +kernel
theorem dX10_free_13 : decode cX10_free 13 = .ok (.invokestatic 61, 3) := by decide +kernel
theorem dX10_free_16 : decode cX10_free 16 = .ok (.ifCond .ne 5, 3) := by decide +kernel
theorem dX10_free_19 : decode cX10_free 19 = .ok (.iconst (-1), 1) := by decide +kernel
theorem dX10_free_20 : decode cX10_free 20 = .ok (.ireturn, 1) := by decide +kernel
theorem dX10_free_21 : decode cX10_free 21 = .ok (.aload_n 0, 1) := by decide +kernel
theorem dX10_free_22 : decode cX10_free 22 = .ok (.iconst 0, 1) := by decide +kernel
theorem dX10_free_23 : decode cX10_free 23 = .ok (.iload_n 2, 1) := by decide +kernel
theorem dX10_free_24 : decode cX10_free 24 = .ok (.invokevirtual 122, 3) := by decide +kernel
theorem dX10_free_27 : decode cX10_free 27 = .ok (.iload_n 1, 1) := by decide +kernel
theorem dX10_free_28 : decode cX10_free 28 = .ok (.lshr, 1) := by decide +kernel
theorem dX10_free_29 : decode cX10_free 29 = .ok (.lconst 1, 1) := by decide +kernel
theorem dX10_free_30 : decode cX10_free 30 = .ok (.land, 1) := by decide +kernel
theorem dX10_free_31 : decode cX10_free 31 = .ok (.lconst 1, 1) := by decide +kernel
theorem dX10_free_32 : decode cX10_free 32 = .ok (.lcmp, 1) := by decide +kernel
theorem dX10_free_33 : decode cX10_free 33 = .ok (.ifCond .ne 7, 3) := by decide +kernel
theorem dX10_free_36 : decode cX10_free 36 = .ok (.iconst 0, 1) := by decide +kernel
theorem dX10_free_37 : decode cX10_free 37 = .ok (.goto 4, 3) := by decide +kernel
theorem dX10_free_40 : decode cX10_free 40 = .ok (.iconst 1, 1) := by decide +kernel
theorem dX10_free_41 : decode cX10_free 41 = .ok (.ireturn, 1) := by decide +kernel
theorem dX10_trueTo_0 : decode cX10_trueTo 0 = .ok (.lconst 0, 1) := by decide +kernel
theorem dX10_trueTo_1 : decode cX10_trueTo 1 = .ok (.lstore_n 3, 1) := by decide +kernel
theorem dX10_trueTo_2 : decode cX10_trueTo 2 = .ok (.iconst 0, 1) := by decide +kernel
theorem dX10_trueTo_3 : decode cX10_trueTo 3 = .ok (.istore 5, 2) := by decide +kernel
theorem dX10_trueTo_5 : decode cX10_trueTo 5 = .ok (.iload 5, 2) := by decide +kernel
theorem dX10_trueTo_7 : decode cX10_trueTo 7 = .ok (.aload_n 0, 1) := by decide +kernel
theorem dX10_trueTo_8 : decode cX10_trueTo 8 = .ok (.getfield 35, 3) := by decide +kernel
theorem dX10_trueTo_11 : decode cX10_trueTo 11 = .ok (.iload_n 1, 1) := by decide +kernel
theorem dX10_trueTo_12 : decode cX10_trueTo 12 = .ok (.iconst 1, 1) := by decide +kernel
theorem dX10_trueTo_13 : decode cX10_trueTo 13 = .ok (.iadd, 1) := by decide +kernel
theorem dX10_trueTo_14 : decode cX10_trueTo 14 = .ok (.iaload, 1) := by decide +kernel
theorem dX10_trueTo_15 : decode cX10_trueTo 15 = .ok (.if_icmp .ge 109, 3) := by decide +kernel
theorem dX10_trueTo_18 : decode cX10_trueTo 18 = .ok (.aload_n 0, 1) := by decide +kernel
theorem dX10_trueTo_19 : decode cX10_trueTo 19 = .ok (.getfield 35, 3) := by decide +kernel
theorem dX10_trueTo_22 : decode cX10_trueTo 22 = .ok (.iload_n 1, 1) := by decide +kernel
theorem dX10_trueTo_23 : decode cX10_trueTo 23 = .ok (.iconst 2, 1) := by decide +kernel
theorem dX10_trueTo_24 : decode cX10_trueTo 24 = .ok (.iadd, 1) := by decide +kernel
theorem dX10_trueTo_25 : decode cX10_trueTo 25 = .ok (.iload 5, 2) := by decide +kernel
theorem dX10_trueTo_27 : decode cX10_trueTo 27 = .ok (.iadd, 1) := by decide +kernel
theorem dX10_trueTo_28 : decode cX10_trueTo 28 = .ok (.iaload, 1) := by decide +kernel
theorem dX10_trueTo_29 : decode cX10_trueTo 29 = .ok (.istore 6, 2) := by decide +kernel
theorem dX10_trueTo_31 : decode cX10_trueTo 31 = .ok (.aload_n 0, 1) := by decide +kernel
theorem dX10_trueTo_32 : decode cX10_trueTo 32 = .ok (.getfield 35, 3) := by decide +kernel
theorem dX10_trueTo_35 : decode cX10_trueTo 35 = .ok (.iload_n 1, 1) := by decide +kernel
theorem dX10_trueTo_36 : decode cX10_trueTo 36 = .ok (.bipush 32, 2) := by decide +kernel
theorem dX10_trueTo_38 : decode cX10_trueTo 38 = .ok (.iadd, 1) := by decide +kernel
theorem dX10_trueTo_39 : decode cX10_trueTo 39 = .ok (.iload 5, 2) := by decide +kernel
theorem dX10_trueTo_41 : decode cX10_trueTo 41 = .ok (.iadd, 1) := by decide +kernel
theorem dX10_trueTo_42 : decode cX10_trueTo 42 = .ok (.iaload, 1) := by decide +kernel
theorem dX10_trueTo_43 : decode cX10_trueTo 43 = .ok (.istore 7, 2) := by decide +kernel
theorem dX10_trueTo_45 : decode cX10_trueTo 45 = .ok (.iload 7, 2) := by decide +kernel
theorem dX10_trueTo_47 : decode cX10_trueTo 47 = .ok (.iconst 2, 1) := by decide +kernel
theorem dX10_trueTo_48 : decode cX10_trueTo 48 = .ok (.if_icmp .ne 27, 3) := by decide +kernel
theorem dX10_trueTo_51 : decode cX10_trueTo 51 = .ok (.iload 6, 2) := by decide +kernel
theorem dX10_trueTo_53 : decode cX10_trueTo 53 = .ok (.aload_n 0, 1) := by decide +kernel
theorem dX10_trueTo_54 : decode cX10_trueTo 54 = .ok (.getfield 17, 3) := by decide +kernel
theorem dX10_trueTo_57 : decode cX10_trueTo 57 = .ok (.iconst 0, 1) := by decide +kernel
theorem dX10_trueTo_58 : decode cX10_trueTo 58 = .ok (.iaload, 1) := by decide +kernel
theorem dX10_trueTo_59 : decode cX10_trueTo 59 = .ok (.irem, 1) := by decide +kernel
theorem dX10_trueTo_60 : decode cX10_trueTo 60 = .ok (.aload_n 0, 1) := by decide +kernel
theorem dX10_trueTo_61 : decode cX10_trueTo 61 = .ok (.getfield 17, 3) := by decide +kernel
theorem dX10_trueTo_64 : decode cX10_trueTo 64 = .ok (.iconst 0, 1) := by decide +kernel
theorem dX10_trueTo_65 : decode cX10_trueTo 65 = .ok (.iaload, 1) := by decide +kernel
theorem dX10_trueTo_66 : decode cX10_trueTo 66 = .ok (.iconst 1, 1) := by decide +kernel
theorem dX10_trueTo_67 : decode cX10_trueTo 67 = .ok (.isub, 1) := by decide +kernel
theorem dX10_trueTo_68 : decode cX10_trueTo 68 = .ok (.if_icmp .ge 7, 3) := by decide +kernel
theorem dX10_trueTo_71 : decode cX10_trueTo 71 = .ok (.iconst 1, 1) := by decide +kernel
theorem dX10_trueTo_72 : decode cX10_trueTo 72 = .ok (.goto 4, 3) := by decide +kernel
theorem dX10_trueTo_75 : decode cX10_trueTo 75 = .ok (.iconst 0, 1) := by decide +kernel
theorem dX10_trueTo_76 : decode cX10_trueTo 76 = .ok (.istore 8, 2) := by decide +kernel
theorem dX10_trueTo_78 : decode cX10_trueTo 78 = .ok (.lload_n 3, 1) := by decide +kernel
theorem dX10_trueTo_79 : decode cX10_trueTo 79 = .ok (.aload_n 0, 1) := by decide +kernel
theorem dX10_trueTo_80 : decode cX10_trueTo 80 = .ok (.iload_n 1, 1) := by decide +kernel
theorem dX10_trueTo_81 : decode cX10_trueTo 81 = .ok (.iload 5, 2) := by decide +kernel
theorem dX10_trueTo_83 : decode cX10_trueTo 83 = .ok (.iload_n 2, 1) := by decide +kernel
theorem dX10_trueTo_84 : decode cX10_trueTo 84 = .ok (.invokevirtual 113, 3) := by decide +kernel
theorem dX10_trueTo_87 : decode cX10_trueTo 87 = .ok (.ifCond .eq 28, 3) := by decide +kernel
theorem dX10_trueTo_90 : decode cX10_trueTo 90 = .ok (.iload 7, 2) := by decide +kernel
theorem dX10_trueTo_92 : decode cX10_trueTo 92 = .ok (.iconst 3, 1) := by decide +kernel
theorem dX10_trueTo_93 : decode cX10_trueTo 93 = .ok (.if_icmp .eq 22, 3) := by decide +kernel
theorem dX10_trueTo_96 : decode cX10_trueTo 96 = .ok (.lconst 1, 1) := by decide +kernel
theorem dX10_trueTo_97 : decode cX10_trueTo 97 = .ok (.iload 8, 2) := by decide +kernel
theorem dX10_trueTo_99 : decode cX10_trueTo 99 = .ok (.ifCond .eq 10, 3) := by decide +kernel
theorem dX10_trueTo_102 : decode cX10_trueTo 102 = .ok (.iload 6, 2) := by decide +kernel
theorem dX10_trueTo_104 : decode cX10_trueTo 104 = .ok (.iconst 1, 1) := by decide +kernel
theorem dX10_trueTo_105 : decode cX10_trueTo 105 = .ok (.iadd, 1) := by decide +kernel
theorem dX10_trueTo_106 : decode cX10_trueTo 106 = .ok (.goto 5, 3) := by decide +kernel
theorem dX10_trueTo_109 : decode cX10_trueTo 109 = .ok (.iload 6, 2) := by decide +kernel
theorem dX10_trueTo_111 : decode cX10_trueTo 111 = .ok (.lshl, 1) := by decide +kernel
theorem dX10_trueTo_112 : decode cX10_trueTo 112 = .ok (.goto 4, 3) := by decide +kernel
theorem dX10_trueTo_115 : decode cX10_trueTo 115 = .ok (.lconst 0, 1) := by decide +kernel
theorem dX10_trueTo_116 : decode cX10_trueTo 116 = .ok (.lor, 1) := by decide +kernel
theorem dX10_trueTo_117 : decode cX10_trueTo 117 = .ok (.lstore_n 3, 1) := by decide +kernel
theorem dX10_trueTo_118 : decode cX10_trueTo 118 = .ok (.iinc 5 1, 3) := by decide +kernel
theorem dX10_trueTo_121 : decode cX10_trueTo 121 = .ok (.goto (-116), 3) := by decide +kernel
theorem dX10_trueTo_124 : decode cX10_trueTo 124 = .ok (.lload_n 3, 1) := by decide +kernel
theorem dX10_trueTo_125 : decode cX10_trueTo 125 = .ok (.lreturn, 1) := by decide +kernel
theorem dX10_byHand_0 : decode cX10_byHand 0 = .ok (.lconst 0, 1) := by decide +kernel
theorem dX10_byHand_1 : decode cX10_byHand 1 = .ok (.lstore 5, 2) := by decide +kernel
theorem dX10_byHand_3 : decode cX10_byHand 3 = .ok (.iconst 0, 1) := by decide +kernel
theorem dX10_byHand_4 : decode cX10_byHand 4 = .ok (.istore 7, 2) := by decide +kernel
theorem dX10_byHand_6 : decode cX10_byHand 6 = .ok (.iload 7, 2) := by decide +kernel
theorem dX10_byHand_8 : decode cX10_byHand 8 = .ok (.aload_n 0, 1) := by decide +kernel
theorem dX10_byHand_9 : decode cX10_byHand 9 = .ok (.iconst 0, 1) := by decide +kernel
theorem dX10_byHand_10 : decode cX10_byHand 10 = .ok (.invokevirtual 87, 3) := by decide +kernel
theorem dX10_byHand_13 : decode cX10_byHand 13 = .ok (.if_icmp .ge 120, 3) := by decide +kernel
theorem dX10_byHand_16 : decode cX10_byHand 16 = .ok (.iload 7, 2) := by decide +kernel
theorem dX10_byHand_18 : decode cX10_byHand 18 = .ok (.aload_n 0, 1) := by decide +kernel
theorem dX10_byHand_19 : decode cX10_byHand 19 = .ok (.getfield 17, 3) := by decide +kernel
theorem dX10_byHand_22 : decode cX10_byHand 22 = .ok (.iconst 0, 1) := by decide +kernel
theorem dX10_byHand_23 : decode cX10_byHand 23 = .ok (.iaload, 1) := by decide +kernel
theorem dX10_byHand_24 : decode cX10_byHand 24 = .ok (.idiv, 1) := by decide +kernel
theorem dX10_byHand_25 : decode cX10_byHand 25 = .ok (.iload_n 3, 1) := by decide +kernel
theorem dX10_byHand_26 : decode cX10_byHand 26 = .ok (.iadd, 1) := by decide +kernel
theorem dX10_byHand_27 : decode cX10_byHand 27 = .ok (.iconst 2, 1) := by decide +kernel
theorem dX10_byHand_28 : decode cX10_byHand 28 = .ok (.isub, 1) := by decide +kernel
theorem dX10_byHand_29 : decode cX10_byHand 29 = .ok (.istore 8, 2) := by decide +kernel
theorem dX10_byHand_31 : decode cX10_byHand 31 = .ok (.iload 7, 2) := by decide +kernel
theorem dX10_byHand_33 : decode cX10_byHand 33 = .ok (.aload_n 0, 1) := by decide +kernel
theorem dX10_byHand_34 : decode cX10_byHand 34 = .ok (.getfield 17, 3) := by decide +kernel
theorem dX10_byHand_37 : decode cX10_byHand 37 = .ok (.iconst 0, 1) := by decide +kernel
theorem dX10_byHand_38 : decode cX10_byHand 38 = .ok (.iaload, 1) := by decide +kernel
theorem dX10_byHand_39 : decode cX10_byHand 39 = .ok (.irem, 1) := by decide +kernel
theorem dX10_byHand_40 : decode cX10_byHand 40 = .ok (.iload 4, 2) := by decide +kernel
theorem dX10_byHand_42 : decode cX10_byHand 42 = .ok (.iadd, 1) := by decide +kernel
theorem dX10_byHand_43 : decode cX10_byHand 43 = .ok (.iconst 2, 1) := by decide +kernel
theorem dX10_byHand_44 : decode cX10_byHand 44 = .ok (.isub, 1) := by decide +kernel
theorem dX10_byHand_45 : decode cX10_byHand 45 = .ok (.istore 9, 2) := by decide +kernel
theorem dX10_byHand_47 : decode cX10_byHand 47 = .ok (.lload_n 1, 1) := by decide +kernel
theorem dX10_byHand_48 : decode cX10_byHand 48 = .ok (.iload 7, 2) := by decide +kernel
theorem dX10_byHand_50 : decode cX10_byHand 50 = .ok (.lshr, 1) := by decide +kernel
theorem dX10_byHand_51 : decode cX10_byHand 51 = .ok (.lconst 1, 1) := by decide +kernel
theorem dX10_byHand_52 : decode cX10_byHand 52 = .ok (.land, 1) := by decide +kernel
theorem dX10_byHand_53 : decode cX10_byHand 53 = .ok (.lconst 1, 1) := by decide +kernel
theorem dX10_byHand_54 : decode cX10_byHand 54 = .ok (.lcmp, 1) := by decide +kernel
theorem dX10_byHand_55 : decode cX10_byHand 55 = .ok (.ifCond .ne 41, 3) := by decide +kernel
theorem dX10_byHand_58 : decode cX10_byHand 58 = .ok (.iload 8, 2) := by decide +kernel
theorem dX10_byHand_60 : decode cX10_byHand 60 = .ok (.iconst 0, 1) := by decide +kernel
theorem dX10_byHand_61 : decode cX10_byHand 61 = .ok (.aload_n 0, 1) := by decide +kernel
theorem dX10_byHand_62 : decode cX10_byHand 62 = .ok (.getfield 13, 3) := by decide +kernel
theorem dX10_byHand_65 : decode cX10_byHand 65 = .ok (.iconst 0, 1) := by decide +kernel
theorem dX10_byHand_66 : decode cX10_byHand 66 = .ok (.iaload, 1) := by decide +kernel
theorem dX10_byHand_67 : decode cX10_byHand 67 = .ok (.iconst 1, 1) := by decide +kernel
theorem dX10_byHand_68 : decode cX10_byHand 68 = .ok (.isub, 1) := by decide +kernel
theorem dX10_byHand_69 : decode cX10_byHand 69 = .ok (.invokestatic 61, 3) := by decide +kernel
theorem dX10_byHand_72 : decode cX10_byHand 72 = .ok (.ifCond .eq 24, 3) := by decide +kernel
theorem dX10_byHand_75 : decode cX10_byHand 75 = .ok (.iload 9, 2) := by decide +kernel
theorem dX10_byHand_77 : decode cX10_byHand 77 = .ok (.iconst 0, 1) := by decide +kernel
theorem dX10_byHand_78 : decode cX10_byHand 78 = .ok (.aload_n 0, 1) := by decide +kernel
theorem dX10_byHand_79 : decode cX10_byHand 79 = .ok (.getfield 17, 3) := by decide +kernel
theorem dX10_byHand_82 : decode cX10_byHand 82 = .ok (.iconst 0, 1) := by decide +kernel
theorem dX10_byHand_83 : decode cX10_byHand 83 = .ok (.iaload, 1) := by decide +kernel
theorem dX10_byHand_84 : decode cX10_byHand 84 = .ok (.iconst 1, 1) := by decide +kernel
theorem dX10_byHand_85 : decode cX10_byHand 85 = .ok (.isub, 1) := by decide +kernel
theorem dX10_byHand_86 : decode cX10_byHand 86 = .ok (.invokestatic 61, 3) := by decide +kernel
theorem dX10_byHand_89 : decode cX10_byHand 89 = .ok (.ifCond .eq 7, 3) := by decide +kernel
theorem dX10_byHand_92 : decode cX10_byHand 92 = .ok (.iconst 1, 1) := by decide +kernel
theorem dX10_byHand_93 : decode cX10_byHand 93 = .ok (.goto 4, 3) := by decide +kernel
theorem dX10_byHand_96 : decode cX10_byHand 96 = .ok (.iconst 0, 1) := by decide +kernel
theorem dX10_byHand_97 : decode cX10_byHand 97 = .ok (.istore 10, 2) := by decide +kernel
theorem dX10_byHand_99 : decode cX10_byHand 99 = .ok (.lload 5, 2) := by decide +kernel
theorem dX10_byHand_101 : decode cX10_byHand 101 = .ok (.iload 10, 2) := by decide +kernel
theorem dX10_byHand_103 : decode cX10_byHand 103 = .ok (.ifCond .eq 20, 3) := by decide +kernel
theorem dX10_byHand_106 : decode cX10_byHand 106 = .ok (.lconst 1, 1) := by decide +kernel
theorem dX10_byHand_107 : decode cX10_byHand 107 = .ok (.iload 8, 2) := by decide +kernel
theorem dX10_byHand_109 : decode cX10_byHand 109 = .ok (.aload_n 0, 1) := by decide +kernel
theorem dX10_byHand_110 : decode cX10_byHand 110 = .ok (.getfield 17, 3) := by decide +kernel
theorem dX10_byHand_113 : decode cX10_byHand 113 = .ok (.iconst 0, 1) := by decide +kernel
theorem dX10_byHand_114 : decode cX10_byHand 114 = .ok (.iaload, 1) := by decide +kernel
theorem dX10_byHand_115 : decode cX10_byHand 115 = .ok (.imul, 1) := by decide +kernel
theorem dX10_byHand_116 : decode cX10_byHand 116 = .ok (.iload 9, 2) := by decide +kernel
theorem dX10_byHand_118 : decode cX10_byHand 118 = .ok (.iadd, 1) := by decide +kernel
theorem dX10_byHand_119 : decode cX10_byHand 119 = .ok (.lshl, 1) := by decide +kernel
theorem dX10_byHand_120 : decode cX10_byHand 120 = .ok (.goto 4, 3) := by decide +kernel
theorem dX10_byHand_123 : decode cX10_byHand 123 = .ok (.lconst 0, 1) := by decide +kernel
theorem dX10_byHand_124 : decode cX10_byHand 124 = .ok (.lor, 1) := by decide +kernel
theorem dX10_byHand_125 : decode cX10_byHand 125 = .ok (.lstore 5, 2) := by decide +kernel
theorem dX10_byHand_127 : decode cX10_byHand 127 = .ok (.iinc 7 1, 3) := by decide +kernel
theorem dX10_byHand_130 : decode cX10_byHand 130 = .ok (.goto (-124), 3) := by decide +kernel
theorem dX10_byHand_133 : decode cX10_byHand 133 = .ok (.lload 5, 2) := by decide +kernel
theorem dX10_byHand_135 : decode cX10_byHand 135 = .ok (.lreturn, 1) := by decide +kernel
theorem dX10_shown_0 : decode cX10_shown 0 = .ok (.aload_n 0, 1) := by decide +kernel
theorem dX10_shown_1 : decode cX10_shown 1 = .ok (.aload_n 0, 1) := by decide +kernel
theorem dX10_shown_2 : decode cX10_shown 2 = .ok (.iconst 0, 1) := by decide +kernel
theorem dX10_shown_3 : decode cX10_shown 3 = .ok (.aload_n 0, 1) := by decide +kernel
theorem dX10_shown_4 : decode cX10_shown 4 = .ok (.getfield 23, 3) := by decide +kernel
theorem dX10_shown_7 : decode cX10_shown 7 = .ok (.iload_n 1, 1) := by decide +kernel
theorem dX10_shown_8 : decode cX10_shown 8 = .ok (.iaload, 1) := by decide +kernel
theorem dX10_shown_9 : decode cX10_shown 9 = .ok (.invokevirtual 126, 3) := by decide +kernel
theorem dX10_shown_12 : decode cX10_shown 12 = .ok (.aload_n 0, 1) := by decide +kernel
theorem dX10_shown_13 : decode cX10_shown 13 = .ok (.getfield 26, 3) := by decide +kernel
theorem dX10_shown_16 : decode cX10_shown 16 = .ok (.iload_n 1, 1) := by decide +kernel
theorem dX10_shown_17 : decode cX10_shown 17 = .ok (.iaload, 1) := by decide +kernel
theorem dX10_shown_18 : decode cX10_shown 18 = .ok (.aload_n 0, 1) := by decide +kernel
theorem dX10_shown_19 : decode cX10_shown 19 = .ok (.getfield 29, 3) := by decide +kernel
theorem dX10_shown_22 : decode cX10_shown 22 = .ok (.iload_n 1, 1) := by decide +kernel
theorem dX10_shown_23 : decode cX10_shown 23 = .ok (.iaload, 1) := by decide +kernel
theorem dX10_shown_24 : decode cX10_shown 24 = .ok (.invokevirtual 129, 3) := by decide +kernel
theorem dX10_shown_27 : decode cX10_shown 27 = .ok (.lreturn, 1) := by decide +kernel
theorem dX10_manyOf_0 : decode cX10_manyOf 0 = .ok (.iconst 0, 1) := by decide +kernel
theorem dX10_manyOf_1 : decode cX10_manyOf 1 = .ok (.istore_n 2, 1) := by decide +kernel
theorem dX10_manyOf_2 : decode cX10_manyOf 2 = .ok (.iconst 0, 1) := by decide +kernel
theorem dX10_manyOf_3 : decode cX10_manyOf 3 = .ok (.istore_n 3, 1) := by decide +kernel
theorem dX10_manyOf_4 : decode cX10_manyOf 4 = .ok (.iload_n 3, 1) := by decide +kernel
theorem dX10_manyOf_5 : decode cX10_manyOf 5 = .ok (.bipush 64, 2) := by decide +kernel
theorem dX10_manyOf_7 : decode cX10_manyOf 7 = .ok (.if_icmp .ge 27, 3) := by decide +kernel
theorem dX10_manyOf_10 : decode cX10_manyOf 10 = .ok (.iload_n 2, 1) := by decide +kernel
theorem dX10_manyOf_11 : decode cX10_manyOf 11 = .ok (.lload_n 0, 1) := by decide +kernel
theorem dX10_manyOf_12 : decode cX10_manyOf 12 = .ok (.iload_n 3, 1) := by decide +kernel
theorem dX10_manyOf_13 : decode cX10_manyOf 13 = .ok (.lshr, 1) := by decide +kernel
theorem dX10_manyOf_14 : decode cX10_manyOf 14 = .ok (.lconst 1, 1) := by decide +kernel
theorem dX10_manyOf_15 : decode cX10_manyOf 15 = .ok (.land, 1) := by decide +kernel
theorem dX10_manyOf_16 : decode cX10_manyOf 16 = .ok (.lconst 1, 1) := by decide +kernel
theorem dX10_manyOf_17 : decode cX10_manyOf 17 = .ok (.lcmp, 1) := by decide +kernel
theorem dX10_manyOf_18 : decode cX10_manyOf 18 = .ok (.ifCond .ne 7, 3) := by decide +kernel
theorem dX10_manyOf_21 : decode cX10_manyOf 21 = .ok (.iconst 1, 1) := by decide +kernel
theorem dX10_manyOf_22 : decode cX10_manyOf 22 = .ok (.goto 4, 3) := by decide +kernel
theorem dX10_manyOf_25 : decode cX10_manyOf 25 = .ok (.iconst 0, 1) := by decide +kernel
theorem dX10_manyOf_26 : decode cX10_manyOf 26 = .ok (.iadd, 1) := by decide +kernel
theorem dX10_manyOf_27 : decode cX10_manyOf 27 = .ok (.istore_n 2, 1) := by decide +kernel
theorem dX10_manyOf_28 : decode cX10_manyOf 28 = .ok (.iinc 3 1, 3) := by decide +kernel
theorem dX10_manyOf_31 : decode cX10_manyOf 31 = .ok (.goto (-27), 3) := by decide +kernel
theorem dX10_manyOf_34 : decode cX10_manyOf 34 = .ok (.iload_n 2, 1) := by decide +kernel
theorem dX10_manyOf_35 : decode cX10_manyOf 35 = .ok (.ireturn, 1) := by decide +kernel
theorem dX10_lowest_0 : decode cX10_lowest 0 = .ok (.iconst 0, 1) := by decide +kernel
theorem dX10_lowest_1 : decode cX10_lowest 1 = .ok (.istore_n 2, 1) := by decide +kernel
theorem dX10_lowest_2 : decode cX10_lowest 2 = .ok (.iload_n 2, 1) := by decide +kernel
theorem dX10_lowest_3 : decode cX10_lowest 3 = .ok (.bipush 64, 2) := by decide +kernel
theorem dX10_lowest_5 : decode cX10_lowest 5 = .ok (.if_icmp .ge 21, 3) := by decide +kernel
theorem dX10_lowest_8 : decode cX10_lowest 8 = .ok (.lload_n 0, 1) := by decide +kernel
theorem dX10_lowest_9 : decode cX10_lowest 9 = .ok (.iload_n 2, 1) := by decide +kernel
theorem dX10_lowest_10 : decode cX10_lowest 10 = .ok (.lshr, 1) := by decide +kernel
theorem dX10_lowest_11 : decode cX10_lowest 11 = .ok (.lconst 1, 1) := by decide +kernel
theorem dX10_lowest_12 : decode cX10_lowest 12 = .ok (.land, 1) := by decide +kernel
theorem dX10_lowest_13 : decode cX10_lowest 13 = .ok (.lconst 1, 1) := by decide +kernel
theorem dX10_lowest_14 : decode cX10_lowest 14 = .ok (.lcmp, 1) := by decide +kernel
theorem dX10_lowest_15 : decode cX10_lowest 15 = .ok (.ifCond .ne 5, 3) := by decide +kernel
theorem dX10_lowest_18 : decode cX10_lowest 18 = .ok (.iload_n 2, 1) := by decide +kernel
theorem dX10_lowest_19 : decode cX10_lowest 19 = .ok (.ireturn, 1) := by decide +kernel
theorem dX10_lowest_20 : decode cX10_lowest 20 = .ok (.iinc 2 1, 3) := by decide +kernel
theorem dX10_lowest_23 : decode cX10_lowest 23 = .ok (.goto (-21), 3) := by decide +kernel
theorem dX10_lowest_26 : decode cX10_lowest 26 = .ok (.bipush (-4), 2) := by decide +kernel
theorem dX10_lowest_28 : decode cX10_lowest 28 = .ok (.ireturn, 1) := by decide +kernel
theorem dX10_map_0 : decode cX10_map 0 = .ok (.aload_n 0, 1) := by decide +kernel
theorem dX10_map_1 : decode cX10_map 1 = .ok (.iload_n 1, 1) := by decide +kernel
theorem dX10_map_2 : decode cX10_map 2 = .ok (.invokevirtual 133, 3) := by decide +kernel
theorem dX10_map_5 : decode cX10_map 5 = .ok (.ifCond .eq 12, 3) := by decide +kernel
theorem dX10_map_8 : decode cX10_map 8 = .ok (.iload_n 2, 1) := by decide +kernel
theorem dX10_map_9 : decode cX10_map 9 = .ok (.iconst 0, 1) := by decide +kernel
theorem dX10_map_10 : decode cX10_map 10 = .ok (.iconst 3, 1) := by decide +kernel
theorem dX10_map_11 : decode cX10_map 11 = .ok (.invokestatic 61, 3) := by decide +kernel
theorem dX10_map_14 : decode cX10_map 14 = .ok (.ifCond .ne 5, 3) := by decide +kernel
theorem dX10_map_17 : decode cX10_map 17 = .ok (.iconst (-1), 1) := by decide +kernel
theorem dX10_map_18 : decode cX10_map 18 = .ok (.ireturn, 1) := by decide +kernel
theorem dX10_map_19 : decode cX10_map 19 = .ok (.iload_n 2, 1) := by decide +kernel
theorem dX10_map_20 : decode cX10_map 20 = .ok (.ifCond .ne 12, 3) := by decide +kernel
theorem dX10_map_23 : decode cX10_map 23 = .ok (.aload_n 0, 1) := by decide +kernel
theorem dX10_map_24 : decode cX10_map 24 = .ok (.getfield 23, 3) := by decide +kernel
theorem dX10_map_27 : decode cX10_map 27 = .ok (.iload_n 1, 1) := by decide +kernel
theorem dX10_map_28 : decode cX10_map 28 = .ok (.iaload, 1) := by decide +kernel
theorem dX10_map_29 : decode cX10_map 29 = .ok (.goto 39, 3) := by decide +kernel
theorem dX10_map_32 : decode cX10_map 32 = .ok (.iload_n 2, 1) := by decide +kernel
theorem dX10_map_33 : decode cX10_map 33 = .ok (.iconst 1, 1) := by decide +kernel
theorem dX10_map_34 : decode cX10_map 34 = .ok (.if_icmp .ne 12, 3) := by decide +kernel
theorem dX10_map_37 : decode cX10_map 37 = .ok (.aload_n 0, 1) := by decide +kernel
theorem dX10_map_38 : decode cX10_map 38 = .ok (.getfield 26, 3) := by decide +kernel
theorem dX10_map_41 : decode cX10_map 41 = .ok (.iload_n 1, 1) := by decide +kernel
theorem dX10_map_42 : decode cX10_map 42 = .ok (.iaload, 1) := by decide +kernel
theorem dX10_map_43 : decode cX10_map 43 = .ok (.goto 25, 3) := by decide +kernel
theorem dX10_map_46 : decode cX10_map 46 = .ok (.iload_n 2, 1) := by decide +kernel
theorem dX10_map_47 : decode cX10_map 47 = .ok (.iconst 2, 1) := by decide +kernel
theorem dX10_map_48 : decode cX10_map 48 = .ok (.if_icmp .ne 12, 3) := by decide +kernel
theorem dX10_map_51 : decode cX10_map 51 = .ok (.aload_n 0, 1) := by decide +kernel
theorem dX10_map_52 : decode cX10_map 52 = .ok (.getfield 29, 3) := by decide +kernel
theorem dX10_map_55 : decode cX10_map 55 = .ok (.iload_n 1, 1) := by decide +kernel
theorem dX10_map_56 : decode cX10_map 56 = .ok (.iaload, 1) := by decide +kernel
theorem dX10_map_57 : decode cX10_map 57 = .ok (.goto 11, 3) := by decide +kernel
theorem dX10_map_60 : decode cX10_map 60 = .ok (.aload_n 0, 1) := by decide +kernel
theorem dX10_map_61 : decode cX10_map 61 = .ok (.iload_n 1, 1) := by decide +kernel
theorem dX10_map_62 : decode cX10_map 62 = .ok (.invokevirtual 136, 3) := by decide +kernel
theorem dX10_map_65 : decode cX10_map 65 = .ok (.invokestatic 140, 3) := by decide +kernel
theorem dX10_map_68 : decode cX10_map 68 = .ok (.ireturn, 1) := by decide +kernel
theorem dX10_shows_0 : decode cX10_shows 0 = .ok (.aload_n 0, 1) := by decide +kernel
theorem dX10_shows_1 : decode cX10_shows 1 = .ok (.iload_n 1, 1) := by decide +kernel
theorem dX10_shows_2 : decode cX10_shows 2 = .ok (.invokevirtual 133, 3) := by decide +kernel
theorem dX10_shows_5 : decode cX10_shows 5 = .ok (.ifCond .eq 24, 3) := by decide +kernel
theorem dX10_shows_8 : decode cX10_shows 8 = .ok (.aload_n 0, 1) := by decide +kernel
theorem dX10_shows_9 : decode cX10_shows 9 = .ok (.iload_n 2, 1) := by decide +kernel
theorem dX10_shows_10 : decode cX10_shows 10 = .ok (.invokevirtual 116, 3) := by decide +kernel
theorem dX10_shows_13 : decode cX10_shows 13 = .ok (.ifCond .eq 16, 3) := by decide +kernel
theorem dX10_shows_16 : decode cX10_shows 16 = .ok (.aload_n 0, 1) := by decide +kernel
theorem dX10_shows_17 : decode cX10_shows 17 = .ok (.iload_n 1, 1) := by decide +kernel
theorem dX10_shows_18 : decode cX10_shows 18 = .ok (.invokevirtual 136, 3) := by decide +kernel
theorem dX10_shows_21 : decode cX10_shows 21 = .ok (.iload_n 2, 1) := by decide +kernel
theorem dX10_shows_22 : decode cX10_shows 22 = .ok (.lshr, 1) := by decide +kernel
theorem dX10_shows_23 : decode cX10_shows 23 = .ok (.lconst 1, 1) := by decide +kernel
theorem dX10_shows_24 : decode cX10_shows 24 = .ok (.land, 1) := by decide +kernel
theorem dX10_shows_25 : decode cX10_shows 25 = .ok (.l2i, 1) := by decide +kernel
theorem dX10_shows_26 : decode cX10_shows 26 = .ok (.goto 4, 3) := by decide +kernel
theorem dX10_shows_29 : decode cX10_shows 29 = .ok (.iconst (-1), 1) := by decide +kernel
theorem dX10_shows_30 : decode cX10_shows 30 = .ok (.ireturn, 1) := by decide +kernel
theorem dX10_know_0 : decode cX10_know 0 = .ok (.aload_n 0, 1) := by decide +kernel
theorem dX10_know_1 : decode cX10_know 1 = .ok (.getfield 97, 3) := by decide +kernel
theorem dX10_know_4 : decode cX10_know 4 = .ok (.bipush 8, 2) := by decide +kernel
theorem dX10_know_6 : decode cX10_know 6 = .ok (.if_icmp .ne 46, 3) := by decide +kernel
theorem dX10_know_9 : decode cX10_know 9 = .ok (.iconst 0, 1) := by decide +kernel
theorem dX10_know_10 : decode cX10_know 10 = .ok (.istore_n 1, 1) := by decide +kernel
theorem dX10_know_11 : decode cX10_know 11 = .ok (.iload_n 1, 1) := by decide +kernel
theorem dX10_know_12 : decode cX10_know 12 = .ok (.sipush 294, 3) := by decide +kernel
theorem dX10_know_15 : decode cX10_know 15 = .ok (.if_icmp .ge 27, 3) := by decide +kernel
theorem dX10_know_18 : decode cX10_know 18 = .ok (.aload_n 0, 1) := by decide +kernel
theorem dX10_know_19 : decode cX10_know 19 = .ok (.getfield 35, 3) := by decide +kernel
theorem dX10_know_22 : decode cX10_know 22 = .ok (.bipush 42, 2) := by decide +kernel
theorem dX10_know_24 : decode cX10_know 24 = .ok (.iload_n 1, 1) := by decide +kernel
theorem dX10_know_25 : decode cX10_know 25 = .ok (.iadd, 1) := by decide +kernel
theorem dX10_know_26 : decode cX10_know 26 = .ok (.aload_n 0, 1) := by decide +kernel
theorem dX10_know_27 : decode cX10_know 27 = .ok (.getfield 35, 3) := by decide +kernel
theorem dX10_know_30 : decode cX10_know 30 = .ok (.bipush 84, 2) := by decide +kernel
theorem dX10_know_32 : decode cX10_know 32 = .ok (.iload_n 1, 1) := by decide +kernel
theorem dX10_know_33 : decode cX10_know 33 = .ok (.iadd, 1) := by decide +kernel
theorem dX10_know_34 : decode cX10_know 34 = .ok (.iaload, 1) := by decide +kernel
theorem dX10_know_35 : decode cX10_know 35 = .ok (.iastore, 1) := by decide +kernel
theorem dX10_know_36 : decode cX10_know 36 = .ok (.iinc 1 1, 3) := by decide +kernel
theorem dX10_know_39 : decode cX10_know 39 = .ok (.goto (-28), 3) := by decide +kernel
theorem dX10_know_42 : decode cX10_know 42 = .ok (.aload_n 0, 1) := by decide +kernel
theorem dX10_know_43 : decode cX10_know 43 = .ok (.dup, 1) := by decide +kernel
theorem dX10_know_44 : decode cX10_know 44 = .ok (.getfield 97, 3) := by decide +kernel
theorem dX10_know_47 : decode cX10_know 47 = .ok (.iconst 1, 1) := by decide +kernel
theorem dX10_know_48 : decode cX10_know 48 = .ok (.isub, 1) := by decide +kernel
theorem dX10_know_49 : decode cX10_know 49 = .ok (.putfield 97, 3) := by decide +kernel
theorem dX10_know_52 : decode cX10_know 52 = .ok (.aload_n 0, 1) := by decide +kernel
theorem dX10_know_53 : decode cX10_know 53 = .ok (.iconst 0, 1) := by decide +kernel
theorem dX10_know_54 : decode cX10_know 54 = .ok (.bipush 42, 2) := by decide +kernel
theorem dX10_know_56 : decode cX10_know 56 = .ok (.bipush 42, 2) := by decide +kernel
theorem dX10_know_58 : decode cX10_know 58 = .ok (.aload_n 0, 1) := by decide +kernel
theorem dX10_know_59 : decode cX10_know 59 = .ok (.getfield 97, 3) := by decide +kernel
theorem dX10_know_62 : decode cX10_know 62 = .ok (.imul, 1) := by decide +kernel
theorem dX10_know_63 : decode cX10_know 63 = .ok (.iadd, 1) := by decide +kernel
theorem dX10_know_64 : decode cX10_know 64 = .ok (.invokevirtual 144, 3) := by decide +kernel
theorem dX10_know_67 : decode cX10_know 67 = .ok (.aload_n 0, 1) := by decide +kernel
theorem dX10_know_68 : decode cX10_know 68 = .ok (.dup, 1) := by decide +kernel
theorem dX10_know_69 : decode cX10_know 69 = .ok (.getfield 97, 3) := by decide +kernel
theorem dX10_know_72 : decode cX10_know 72 = .ok (.iconst 1, 1) := by decide +kernel
theorem dX10_know_73 : decode cX10_know 73 = .ok (.iadd, 1) := by decide +kernel
theorem dX10_know_74 : decode cX10_know 74 = .ok (.putfield 97, 3) := by decide +kernel
theorem dX10_know_77 : decode cX10_know 77 = .ok (.return_, 1) := by decide +kernel
theorem dX10_pass_0 : decode cX10_pass 0 = .ok (.iload_n 1, 1) := by decide +kernel
theorem dX10_pass_1 : decode cX10_pass 1 = .ok (.iconst 1, 1) := by decide +kernel
theorem dX10_pass_2 : decode cX10_pass 2 = .ok (.bipush 30, 2) := by decide +kernel
theorem dX10_pass_4 : decode cX10_pass 4 = .ok (.invokestatic 61, 3) := by decide +kernel
theorem dX10_pass_7 : decode cX10_pass 7 = .ok (.ifCond .ne 5, 3) := by decide +kernel
theorem dX10_pass_10 : decode cX10_pass 10 = .ok (.iconst (-1), 1) := by decide +kernel
theorem dX10_pass_11 : decode cX10_pass 11 = .ok (.ireturn, 1) := by decide +kernel
theorem dX10_pass_12 : decode cX10_pass 12 = .ok (.aload_n 0, 1) := by decide +kernel
theorem dX10_pass_13 : decode cX10_pass 13 = .ok (.getfield 35, 3) := by decide +kernel
theorem dX10_pass_16 : decode cX10_pass 16 = .ok (.iconst 0, 1) := by decide +kernel
theorem dX10_pass_17 : decode cX10_pass 17 = .ok (.iaload, 1) := by decide +kernel
theorem dX10_pass_18 : decode cX10_pass 18 = .ok (.iload_n 1, 1) := by decide +kernel
theorem dX10_pass_19 : decode cX10_pass 19 = .ok (.iadd, 1) := by decide +kernel
theorem dX10_pass_20 : decode cX10_pass 20 = .ok (.bipush 98, 2) := by decide +kernel
theorem dX10_pass_22 : decode cX10_pass 22 = .ok (.if_icmp .le 6, 3) := by decide +kernel
theorem dX10_pass_25 : decode cX10_pass 25 = .ok (.bipush (-2), 2) := by decide +kernel
theorem dX10_pass_27 : decode cX10_pass 27 = .ok (.ireturn, 1) := by decide +kernel
theorem dX10_pass_28 : decode cX10_pass 28 = .ok (.aload_n 0, 1) := by decide +kernel
theorem dX10_pass_29 : decode cX10_pass 29 = .ok (.invokevirtual 148, 3) := by decide +kernel
theorem dX10_pass_32 : decode cX10_pass 32 = .ok (.aload_n 0, 1) := by decide +kernel
theorem dX10_pass_33 : decode cX10_pass 33 = .ok (.getfield 35, 3) := by decide +kernel
theorem dX10_pass_36 : decode cX10_pass 36 = .ok (.iconst 0, 1) := by decide +kernel
theorem dX10_pass_37 : decode cX10_pass 37 = .ok (.dup2, 1) := by decide +kernel
theorem dX10_pass_38 : decode cX10_pass 38 = .ok (.iaload, 1) := by decide +kernel
theorem dX10_pass_39 : decode cX10_pass 39 = .ok (.iload_n 1, 1) := by decide +kernel
theorem dX10_pass_40 : decode cX10_pass 40 = .ok (.iadd, 1) := by decide +kernel
theorem dX10_pass_41 : decode cX10_pass 41 = .ok (.iastore, 1) := by decide +kernel
theorem dX10_pass_42 : decode cX10_pass 42 = .ok (.aload_n 0, 1) := by decide +kernel
theorem dX10_pass_43 : decode cX10_pass 43 = .ok (.getfield 35, 3) := by decide +kernel
theorem dX10_pass_46 : decode cX10_pass 46 = .ok (.iconst 0, 1) := by decide +kernel
theorem dX10_pass_47 : decode cX10_pass 47 = .ok (.iaload, 1) := by decide +kernel
theorem dX10_pass_48 : decode cX10_pass 48 = .ok (.ireturn, 1) := by decide +kernel
theorem dX10_canBurn_0 : decode cX10_canBurn 0 = .ok (.aload_n 0, 1) := by decide +kernel
theorem dX10_canBurn_1 : decode cX10_canBurn 1 = .ok (.iload_n 1, 1) := by decide +kernel
theorem dX10_canBurn_2 : decode cX10_canBurn 2 = .ok (.iload_n 2, 1) := by decide +kernel
theorem dX10_canBurn_3 : decode cX10_canBurn 3 = .ok (.aload_n 0, 1) := by decide +kernel
theorem dX10_canBurn_4 : decode cX10_canBurn 4 = .ok (.getfield 35, 3) := by decide +kernel
theorem dX10_canBurn_7 : decode cX10_canBurn 7 = .ok (.iload_n 1, 1) := by decide +kernel
theorem dX10_canBurn_8 : decode cX10_canBurn 8 = .ok (.iconst 0, 1) := by decide +kernel
theorem dX10_canBurn_9 : decode cX10_canBurn 9 = .ok (.iadd, 1) := by decide +kernel
theorem dX10_canBurn_10 : decode cX10_canBurn 10 = .ok (.iaload, 1) := by decide +kernel
theorem dX10_canBurn_11 : decode cX10_canBurn 11 = .ok (.invokevirtual 110, 3) := by decide +kernel
theorem dX10_canBurn_14 : decode cX10_canBurn 14 = .ok (.ifCond .eq 22, 3) := by decide +kernel
theorem dX10_canBurn_17 : decode cX10_canBurn 17 = .ok (.aload_n 0, 1) := by decide +kernel
theorem dX10_canBurn_18 : decode cX10_canBurn 18 = .ok (.getfield 35, 3) := by decide +kernel
theorem dX10_canBurn_21 : decode cX10_canBurn 21 = .ok (.iload_n 1, 1) := by decide +kernel
theorem dX10_canBurn_22 : decode cX10_canBurn 22 = .ok (.bipush 32, 2) := by decide +kernel
theorem dX10_canBurn_24 : decode cX10_canBurn 24 = .ok (.iadd, 1) := by decide +kernel
theorem dX10_canBurn_25 : decode cX10_canBurn 25 = .ok (.iload_n 2, 1) := by decide +kernel
theorem dX10_canBurn_26 : decode cX10_canBurn 26 = .ok (.iadd, 1) := by decide +kernel
theorem dX10_canBurn_27 : decode cX10_canBurn 27 = .ok (.iaload, 1) := by decide +kernel
theorem dX10_canBurn_28 : decode cX10_canBurn 28 = .ok (.iconst 1, 1) := by decide +kernel
theorem dX10_canBurn_29 : decode cX10_canBurn 29 = .ok (.if_icmp .eq 7, 3) := by decide +kernel
theorem dX10_canBurn_32 : decode cX10_canBurn 32 = .ok (.iconst 1, 1) := by decide +kernel
theorem dX10_canBurn_33 : decode cX10_canBurn 33 = .ok (.goto 4, 3) := by decide +kernel
theorem dX10_canBurn_36 : decode cX10_canBurn 36 = .ok (.iconst 0, 1) := by decide +kernel
theorem dX10_canBurn_37 : decode cX10_canBurn 37 = .ok (.ireturn, 1) := by decide +kernel
theorem dX10_burn_0 : decode cX10_burn 0 = .ok (.aload_n 0, 1) := by decide +kernel
theorem dX10_burn_1 : decode cX10_burn 1 = .ok (.iload_n 1, 1) := by decide +kernel
theorem dX10_burn_2 : decode cX10_burn 2 = .ok (.invokevirtual 106, 3) := by decide +kernel
theorem dX10_burn_5 : decode cX10_burn 5 = .ok (.ifCond .ne 5, 3) := by decide +kernel
theorem dX10_burn_8 : decode cX10_burn 8 = .ok (.iconst (-1), 1) := by decide +kernel
theorem dX10_burn_9 : decode cX10_burn 9 = .ok (.ireturn, 1) := by decide +kernel
theorem dX10_burn_10 : decode cX10_burn 10 = .ok (.aload_n 0, 1) := by decide +kernel
theorem dX10_burn_11 : decode cX10_burn 11 = .ok (.iconst 0, 1) := by decide +kernel
theorem dX10_burn_12 : decode cX10_burn 12 = .ok (.iload_n 1, 1) := by decide +kernel
theorem dX10_burn_13 : decode cX10_burn 13 = .ok (.invokevirtual 151, 3) := by decide +kernel
theorem dX10_burn_16 : decode cX10_burn 16 = .ok (.ifCond .ne 6, 3) := by decide +kernel
theorem dX10_burn_19 : decode cX10_burn 19 = .ok (.bipush (-2), 2) := by decide +kernel
theorem dX10_burn_21 : decode cX10_burn 21 = .ok (.ireturn, 1) := by decide +kernel
theorem dX10_burn_22 : decode cX10_burn 22 = .ok (.aload_n 0, 1) := by decide +kernel
theorem dX10_burn_23 : decode cX10_burn 23 = .ok (.invokevirtual 148, 3) := by decide +kernel
theorem dX10_burn_26 : decode cX10_burn 26 = .ok (.aload_n 0, 1) := by decide +kernel
theorem dX10_burn_27 : decode cX10_burn 27 = .ok (.getfield 35, 3) := by decide +kernel
theorem dX10_burn_30 : decode cX10_burn 30 = .ok (.bipush 22, 2) := by decide +kernel
theorem dX10_burn_32 : decode cX10_burn 32 = .ok (.iload_n 1, 1) := by decide +kernel
theorem dX10_burn_33 : decode cX10_burn 33 = .ok (.iadd, 1) := by decide +kernel
theorem dX10_burn_34 : decode cX10_burn 34 = .ok (.aload_n 0, 1) := by decide +kernel
theorem dX10_burn_35 : decode cX10_burn 35 = .ok (.getfield 35, 3) := by decide +kernel
theorem dX10_burn_38 : decode cX10_burn 38 = .ok (.iconst 0, 1) := by decide +kernel
theorem dX10_burn_39 : decode cX10_burn 39 = .ok (.iaload, 1) := by decide +kernel
theorem dX10_burn_40 : decode cX10_burn 40 = .ok (.iastore, 1) := by decide +kernel
theorem dX10_burn_41 : decode cX10_burn 41 = .ok (.aload_n 0, 1) := by decide +kernel
theorem dX10_burn_42 : decode cX10_burn 42 = .ok (.getfield 35, 3) := by decide +kernel
theorem dX10_burn_45 : decode cX10_burn 45 = .ok (.bipush 32, 2) := by decide +kernel
theorem dX10_burn_47 : decode cX10_burn 47 = .ok (.iload_n 1, 1) := by decide +kernel
theorem dX10_burn_48 : decode cX10_burn 48 = .ok (.iadd, 1) := by decide +kernel
theorem dX10_burn_49 : decode cX10_burn 49 = .ok (.iaload, 1) := by decide +kernel
theorem dX10_burn_50 : decode cX10_burn 50 = .ok (.ireturn, 1) := by decide +kernel
theorem dX10_build_0 : decode cX10_build 0 = .ok (.aload_n 0, 1) := by decide +kernel
theorem dX10_build_1 : decode cX10_build 1 = .ok (.iload_n 1, 1) := by decide +kernel
theorem dX10_build_2 : decode cX10_build 2 = .ok (.invokevirtual 116, 3) := by decide +kernel
theorem dX10_build_5 : decode cX10_build 5 = .ok (.ifCond .ne 5, 3) := by decide +kernel
theorem dX10_build_8 : decode cX10_build 8 = .ok (.iconst (-1), 1) := by decide +kernel
theorem dX10_build_9 : decode cX10_build 9 = .ok (.ireturn, 1) := by decide +kernel
theorem dX10_build_10 : decode cX10_build 10 = .ok (.aload_n 0, 1) := by decide +kernel
theorem dX10_build_11 : decode cX10_build 11 = .ok (.iload_n 1, 1) := by decide +kernel
theorem dX10_build_12 : decode cX10_build 12 = .ok (.invokevirtual 119, 3) := by decide +kernel
theorem dX10_build_15 : decode cX10_build 15 = .ok (.bipush (-4), 2) := by decide +kernel
theorem dX10_build_17 : decode cX10_build 17 = .ok (.if_icmp .eq 6, 3) := by decide +kernel
theorem dX10_build_20 : decode cX10_build 20 = .ok (.bipush (-2), 2) := by decide +kernel
theorem dX10_build_22 : decode cX10_build 22 = .ok (.ireturn, 1) := by decide +kernel
theorem dX10_build_23 : decode cX10_build 23 = .ok (.aload_n 0, 1) := by decide +kernel
theorem dX10_build_24 : decode cX10_build 24 = .ok (.getfield 35, 3) := by decide +kernel
theorem dX10_build_27 : decode cX10_build 27 = .ok (.iconst 1, 1) := by decide +kernel
theorem dX10_build_28 : decode cX10_build 28 = .ok (.iaload, 1) := by decide +kernel
theorem dX10_build_29 : decode cX10_build 29 = .ok (.istore_n 2, 1) := by decide +kernel
theorem dX10_build_30 : decode cX10_build 30 = .ok (.iload_n 2, 1) := by decide +kernel
theorem dX10_build_31 : decode cX10_build 31 = .ok (.bipush 10, 2) := by decide +kernel
theorem dX10_build_33 : decode cX10_build 33 = .ok (.if_icmp .ne 6, 3) := by decide +kernel
theorem dX10_build_36 : decode cX10_build 36 = .ok (.bipush (-3), 2) := by decide +kernel
theorem dX10_build_38 : decode cX10_build 38 = .ok (.ireturn, 1) := by decide +kernel
theorem dX10_build_39 : decode cX10_build 39 = .ok (.aload_n 0, 1) := by decide +kernel
theorem dX10_build_40 : decode cX10_build 40 = .ok (.invokevirtual 148, 3) := by decide +kernel
theorem dX10_build_43 : decode cX10_build 43 = .ok (.aload_n 0, 1) := by decide +kernel
theorem dX10_build_44 : decode cX10_build 44 = .ok (.iload_n 2, 1) := by decide +kernel
theorem dX10_build_45 : decode cX10_build 45 = .ok (.iload_n 1, 1) := by decide +kernel
theorem dX10_build_46 : decode cX10_build 46 = .ok (.aload_n 0, 1) := by decide +kernel
theorem dX10_build_47 : decode cX10_build 47 = .ok (.getfield 35, 3) := by decide +kernel
theorem dX10_build_50 : decode cX10_build 50 = .ok (.iconst 0, 1) := by decide +kernel
theorem dX10_build_51 : decode cX10_build 51 = .ok (.iaload, 1) := by decide +kernel
theorem dX10_build_52 : decode cX10_build 52 = .ok (.ldc 57, 2) := by decide +kernel
theorem dX10_build_54 : decode cX10_build 54 = .ok (.iconst 0, 1) := by decide +kernel
theorem dX10_build_55 : decode cX10_build 55 = .ok (.invokevirtual 53, 3) := by decide +kernel
theorem dX10_build_58 : decode cX10_build 58 = .ok (.aload_n 0, 1) := by decide +kernel
theorem dX10_build_59 : decode cX10_build 59 = .ok (.getfield 35, 3) := by decide +kernel
theorem dX10_build_62 : decode cX10_build 62 = .ok (.iconst 1, 1) := by decide +kernel
theorem dX10_build_63 : decode cX10_build 63 = .ok (.dup2, 1) := by decide +kernel
theorem dX10_build_64 : decode cX10_build 64 = .ok (.iaload, 1) := by decide +kernel
theorem dX10_build_65 : decode cX10_build 65 = .ok (.iconst 1, 1) := by decide +kernel
theorem dX10_build_66 : decode cX10_build 66 = .ok (.iadd, 1) := by decide +kernel
theorem dX10_build_67 : decode cX10_build 67 = .ok (.iastore, 1) := by decide +kernel
theorem dX10_build_68 : decode cX10_build 68 = .ok (.iload_n 2, 1) := by decide +kernel
theorem dX10_build_69 : decode cX10_build 69 = .ok (.ireturn, 1) := by decide +kernel
theorem dX10_undo_0 : decode cX10_undo 0 = .ok (.aload_n 0, 1) := by decide +kernel
theorem dX10_undo_1 : decode cX10_undo 1 = .ok (.getfield 97, 3) := by decide +kernel
theorem dX10_undo_4 : decode cX10_undo 4 = .ok (.ifCond .ne 6, 3) := by decide +kernel
theorem dX10_undo_7 : decode cX10_undo 7 = .ok (.bipush (-2), 2) := by decide +kernel
theorem dX10_undo_9 : decode cX10_undo 9 = .ok (.ireturn, 1) := by decide +kernel
theorem dX10_undo_10 : decode cX10_undo 10 = .ok (.aload_n 0, 1) := by decide +kernel
theorem dX10_undo_11 : decode cX10_undo 11 = .ok (.dup, 1) := by decide +kernel
theorem dX10_undo_12 : decode cX10_undo 12 = .ok (.getfield 97, 3) := by decide +kernel
theorem dX10_undo_15 : decode cX10_undo 15 = .ok (.iconst 1, 1) := by decide +kernel
theorem dX10_undo_16 : decode cX10_undo 16 = .ok (.isub, 1) := by decide +kernel
theorem dX10_undo_17 : decode cX10_undo 17 = .ok (.putfield 97, 3) := by decide +kernel
theorem dX10_undo_20 : decode cX10_undo 20 = .ok (.aload_n 0, 1) := by decide +kernel
theorem dX10_undo_21 : decode cX10_undo 21 = .ok (.bipush 42, 2) := by decide +kernel
theorem dX10_undo_23 : decode cX10_undo 23 = .ok (.bipush 42, 2) := by decide +kernel
theorem dX10_undo_25 : decode cX10_undo 25 = .ok (.aload_n 0, 1) := by decide +kernel
theorem dX10_undo_26 : decode cX10_undo 26 = .ok (.getfield 97, 3) := by decide +kernel
theorem dX10_undo_29 : decode cX10_undo 29 = .ok (.imul, 1) := by decide +kernel
theorem dX10_undo_30 : decode cX10_undo 30 = .ok (.iadd, 1) := by decide +kernel
theorem dX10_undo_31 : decode cX10_undo 31 = .ok (.iconst 0, 1) := by decide +kernel
theorem dX10_undo_32 : decode cX10_undo 32 = .ok (.invokevirtual 144, 3) := by decide +kernel
theorem dX10_undo_35 : decode cX10_undo 35 = .ok (.aload_n 0, 1) := by decide +kernel
theorem dX10_undo_36 : decode cX10_undo 36 = .ok (.getfield 97, 3) := by decide +kernel
theorem dX10_undo_39 : decode cX10_undo 39 = .ok (.ireturn, 1) := by decide +kernel
theorem dX10_beside_0 : decode cX10_beside 0 = .ok (.iload_n 1, 1) := by decide +kernel
theorem dX10_beside_1 : decode cX10_beside 1 = .ok (.aload_n 0, 1) := by decide +kernel
theorem dX10_beside_2 : decode cX10_beside 2 = .ok (.getfield 17, 3) := by decide +kernel
theorem dX10_beside_5 : decode cX10_beside 5 = .ok (.iconst 0, 1) := by decide +kernel
theorem dX10_beside_6 : decode cX10_beside 6 = .ok (.iaload, 1) := by decide +kernel
theorem dX10_beside_7 : decode cX10_beside 7 = .ok (.idiv, 1) := by decide +kernel
theorem dX10_beside_8 : decode cX10_beside 8 = .ok (.iload_n 2, 1) := by decide +kernel
theorem dX10_beside_9 : decode cX10_beside 9 = .ok (.ifCond .ne 7, 3) := by decide +kernel
theorem dX10_beside_12 : decode cX10_beside 12 = .ok (.iconst (-1), 1) := by decide +kernel
theorem dX10_beside_13 : decode cX10_beside 13 = .ok (.goto 13, 3) := by decide +kernel
theorem dX10_beside_16 : decode cX10_beside 16 = .ok (.iload_n 2, 1) := by decide +kernel
theorem dX10_beside_17 : decode cX10_beside 17 = .ok (.iconst 1, 1) := by decide +kernel
theorem dX10_beside_18 : decode cX10_beside 18 = .ok (.if_icmp .ne 7, 3) := by decide +kernel
theorem dX10_beside_21 : decode cX10_beside 21 = .ok (.iconst 1, 1) := by decide +kernel
theorem dX10_beside_22 : decode cX10_beside 22 = .ok (.goto 4, 3) := by decide +kernel
theorem dX10_beside_25 : decode cX10_beside 25 = .ok (.iconst 0, 1) := by decide +kernel
theorem dX10_beside_26 : decode cX10_beside 26 = .ok (.iadd, 1) := by decide +kernel
theorem dX10_beside_27 : decode cX10_beside 27 = .ok (.istore_n 3, 1) := by decide +kernel
theorem dX10_beside_28 : decode cX10_beside 28 = .ok (.iload_n 1, 1) := by decide +kernel
theorem dX10_beside_29 : decode cX10_beside 29 = .ok (.aload_n 0, 1) := by decide +kernel
theorem dX10_beside_30 : decode cX10_beside 30 = .ok (.getfield 17, 3) := by decide +kernel
theorem dX10_beside_33 : decode cX10_beside 33 = .ok (.iconst 0, 1) := by decide +kernel
theorem dX10_beside_34 : decode cX10_beside 34 = .ok (.iaload, 1) := by decide +kernel
theorem dX10_beside_35 : decode cX10_beside 35 = .ok (.irem, 1) := by decide +kernel
theorem dX10_beside_36 : decode cX10_beside 36 = .ok (.iload_n 2, 1) := by decide +kernel
theorem dX10_beside_37 : decode cX10_beside 37 = .ok (.iconst 2, 1) := by decide +kernel
theorem dX10_beside_38 : decode cX10_beside 38 = .ok (.if_icmp .ne 7, 3) := by decide +kernel
theorem dX10_beside_41 : decode cX10_beside 41 = .ok (.iconst 1, 1) := by decide +kernel
theorem dX10_beside_42 : decode cX10_beside 42 = .ok (.goto 13, 3) := by decide +kernel
theorem dX10_beside_45 : decode cX10_beside 45 = .ok (.iload_n 2, 1) := by decide +kernel
theorem dX10_beside_46 : decode cX10_beside 46 = .ok (.iconst 3, 1) := by decide +kernel
theorem dX10_beside_47 : decode cX10_beside 47 = .ok (.if_icmp .ne 7, 3) := by decide +kernel
theorem dX10_beside_50 : decode cX10_beside 50 = .ok (.iconst (-1), 1) := by decide +kernel
theorem dX10_beside_51 : decode cX10_beside 51 = .ok (.goto 4, 3) := by decide +kernel
theorem dX10_beside_54 : decode cX10_beside 54 = .ok (.iconst 0, 1) := by decide +kernel
theorem dX10_beside_55 : decode cX10_beside 55 = .ok (.iadd, 1) := by decide +kernel
theorem dX10_beside_56 : decode cX10_beside 56 = .ok (.istore 4, 2) := by decide +kernel
theorem dX10_beside_58 : decode cX10_beside 58 = .ok (.iload_n 3, 1) := by decide +kernel
theorem dX10_beside_59 : decode cX10_beside 59 = .ok (.iconst 0, 1) := by decide +kernel
theorem dX10_beside_60 : decode cX10_beside 60 = .ok (.aload_n 0, 1) := by decide +kernel
theorem dX10_beside_61 : decode cX10_beside 61 = .ok (.getfield 13, 3) := by decide +kernel
theorem dX10_beside_64 : decode cX10_beside 64 = .ok (.iconst 0, 1) := by decide +kernel
theorem dX10_beside_65 : decode cX10_beside 65 = .ok (.iaload, 1) := by decide +kernel
theorem dX10_beside_66 : decode cX10_beside 66 = .ok (.iconst 1, 1) := by decide +kernel
theorem dX10_beside_67 : decode cX10_beside 67 = .ok (.isub, 1) := by decide +kernel
theorem dX10_beside_68 : decode cX10_beside 68 = .ok (.invokestatic 61, 3) := by decide +kernel
theorem dX10_beside_71 : decode cX10_beside 71 = .ok (.ifCond .eq 34, 3) := by decide +kernel
theorem dX10_beside_74 : decode cX10_beside 74 = .ok (.iload 4, 2) := by decide +kernel
theorem dX10_beside_76 : decode cX10_beside 76 = .ok (.iconst 0, 1) := by decide +kernel
theorem dX10_beside_77 : decode cX10_beside 77 = .ok (.aload_n 0, 1) := by decide +kernel
theorem dX10_beside_78 : decode cX10_beside 78 = .ok (.getfield 17, 3) := by decide +kernel
theorem dX10_beside_81 : decode cX10_beside 81 = .ok (.iconst 0, 1) := by decide +kernel
theorem dX10_beside_82 : decode cX10_beside 82 = .ok (.iaload, 1) := by decide +kernel
theorem dX10_beside_83 : decode cX10_beside 83 = .ok (.iconst 1, 1) := by decide +kernel
theorem dX10_beside_84 : decode cX10_beside 84 = .ok (.isub, 1) := by decide +kernel
theorem dX10_beside_85 : decode cX10_beside 85 = .ok (.invokestatic 61, 3) := by decide +kernel
theorem dX10_beside_88 : decode cX10_beside 88 = .ok (.ifCond .eq 17, 3) := by decide +kernel
theorem dX10_beside_91 : decode cX10_beside 91 = .ok (.iload_n 3, 1) := by decide +kernel
theorem dX10_beside_92 : decode cX10_beside 92 = .ok (.aload_n 0, 1) := by decide +kernel
theorem dX10_beside_93 : decode cX10_beside 93 = .ok (.getfield 17, 3) := by decide +kernel
theorem dX10_beside_96 : decode cX10_beside 96 = .ok (.iconst 0, 1) := by decide +kernel
theorem dX10_beside_97 : decode cX10_beside 97 = .ok (.iaload, 1) := by decide +kernel
theorem dX10_beside_98 : decode cX10_beside 98 = .ok (.imul, 1) := by decide +kernel
theorem dX10_beside_99 : decode cX10_beside 99 = .ok (.iload 4, 2) := by decide +kernel
theorem dX10_beside_101 : decode cX10_beside 101 = .ok (.iadd, 1) := by decide +kernel
theorem dX10_beside_102 : decode cX10_beside 102 = .ok (.goto 5, 3) := by decide +kernel
theorem dX10_beside_105 : decode cX10_beside 105 = .ok (.bipush (-4), 2) := by decide +kernel
theorem dX10_beside_107 : decode cX10_beside 107 = .ok (.ireturn, 1) := by decide +kernel
theorem dX10_findTo_0 : decode cX10_findTo 0 = .ok (.iconst 0, 1) := by decide +kernel
theorem dX10_findTo_1 : decode cX10_findTo 1 = .ok (.istore_n 2, 1) := by decide +kernel
theorem dX10_findTo_2 : decode cX10_findTo 2 = .ok (.iload_n 2, 1) := by decide +kernel
theorem dX10_findTo_3 : decode cX10_findTo 3 = .ok (.aload_n 0, 1) := by decide +kernel
theorem dX10_findTo_4 : decode cX10_findTo 4 = .ok (.iconst 0, 1) := by decide +kernel
theorem dX10_findTo_5 : decode cX10_findTo 5 = .ok (.invokevirtual 87, 3) := by decide +kernel
theorem dX10_findTo_8 : decode cX10_findTo 8 = .ok (.if_icmp .ge 26, 3) := by decide +kernel
theorem dX10_findTo_11 : decode cX10_findTo 11 = .ok (.aload_n 0, 1) := by decide +kernel
theorem dX10_findTo_12 : decode cX10_findTo 12 = .ok (.getfield 38, 3) := by decide +kernel
theorem dX10_findTo_15 : decode cX10_findTo 15 = .ok (.iload_n 2, 1) := by decide +kernel
theorem dX10_findTo_16 : decode cX10_findTo 16 = .ok (.iload_n 2, 1) := by decide +kernel
theorem dX10_findTo_17 : decode cX10_findTo 17 = .ok (.iload_n 1, 1) := by decide +kernel
theorem dX10_findTo_18 : decode cX10_findTo 18 = .ok (.if_icmp .ne 7, 3) := by decide +kernel
theorem dX10_findTo_21 : decode cX10_findTo 21 = .ok (.iconst 0, 1) := by decide +kernel
theorem dX10_findTo_22 : decode cX10_findTo 22 = .ok (.goto 5, 3) := by decide +kernel
theorem dX10_findTo_25 : decode cX10_findTo 25 = .ok (.ldc 57, 2) := by decide +kernel
theorem dX10_findTo_27 : decode cX10_findTo 27 = .ok (.iastore, 1) := by decide +kernel
theorem dX10_findTo_28 : decode cX10_findTo 28 = .ok (.iinc 2 1, 3) := by decide +kernel
theorem dX10_findTo_31 : decode cX10_findTo 31 = .ok (.goto (-29), 3) := by decide +kernel
theorem dX10_findTo_34 : decode cX10_findTo 34 = .ok (.iconst 1, 1) := by decide +kernel
theorem dX10_findTo_35 : decode cX10_findTo 35 = .ok (.istore_n 2, 1) := by decide +kernel
theorem dX10_findTo_36 : decode cX10_findTo 36 = .ok (.iload_n 2, 1) := by decide +kernel
theorem dX10_findTo_37 : decode cX10_findTo 37 = .ok (.ifCond .eq 127, 3) := by decide +kernel
theorem dX10_findTo_40 : decode cX10_findTo 40 = .ok (.iconst 0, 1) := by decide +kernel
theorem dX10_findTo_41 : decode cX10_findTo 41 = .ok (.istore_n 2, 1) := by decide +kernel
theorem dX10_findTo_42 : decode cX10_findTo 42 = .ok (.iconst 0, 1) := by decide +kernel
theorem dX10_findTo_43 : decode cX10_findTo 43 = .ok (.istore_n 3, 1) := by decide +kernel
theorem dX10_findTo_44 : decode cX10_findTo 44 = .ok (.iload_n 3, 1) := by decide +kernel
theorem dX10_findTo_45 : decode cX10_findTo 45 = .ok (.aload_n 0, 1) := by decide +kernel
theorem dX10_findTo_46 : decode cX10_findTo 46 = .ok (.iconst 0, 1) := by decide +kernel
theorem dX10_findTo_47 : decode cX10_findTo 47 = .ok (.invokevirtual 87, 3) := by decide +kernel
theorem dX10_findTo_50 : decode cX10_findTo 50 = .ok (.if_icmp .ge 111, 3) := by decide +kernel
theorem dX10_findTo_53 : decode cX10_findTo 53 = .ok (.iconst 0, 1) := by decide +kernel
theorem dX10_findTo_54 : decode cX10_findTo 54 = .ok (.istore 4, 2) := by decide +kernel
theorem dX10_findTo_56 : decode cX10_findTo 56 = .ok (.iload 4, 2) := by decide +kernel
theorem dX10_findTo_58 : decode cX10_findTo 58 = .ok (.iconst 4, 1) := by decide +kernel
theorem dX10_findTo_59 : decode cX10_findTo 59 = .ok (.if_icmp .ge 96, 3) := by decide +kernel
theorem dX10_findTo_62 : decode cX10_findTo 62 = .ok (.aload_n 0, 1) := by decide +kernel
theorem dX10_findTo_63 : decode cX10_findTo 63 = .ok (.iload_n 3, 1) := by decide +kernel
theorem dX10_findTo_64 : decode cX10_findTo 64 = .ok (.iload 4, 2) := by decide +kernel
theorem dX10_findTo_66 : decode cX10_findTo 66 = .ok (.invokevirtual 155, 3) := by decide +kernel
theorem dX10_findTo_69 : decode cX10_findTo 69 = .ok (.istore 5, 2) := by decide +kernel
theorem dX10_findTo_71 : decode cX10_findTo 71 = .ok (.iload 5, 2) := by decide +kernel
theorem dX10_findTo_73 : decode cX10_findTo 73 = .ok (.bipush (-4), 2) := by decide +kernel
theorem dX10_findTo_75 : decode cX10_findTo 75 = .ok (.if_icmp .eq 74, 3) := by decide +kernel
theorem dX10_findTo_78 : decode cX10_findTo 78 = .ok (.aload_n 0, 1) := by decide +kernel
theorem dX10_findTo_79 : decode cX10_findTo 79 = .ok (.getfield 41, 3) := by decide +kernel
theorem dX10_findTo_82 : decode cX10_findTo 82 = .ok (.iload 5, 2) := by decide +kernel
theorem dX10_findTo_84 : decode cX10_findTo 84 = .ok (.iaload, 1) := by decide +kernel
theorem dX10_findTo_85 : decode cX10_findTo 85 = .ok (.ldc 57, 2) := by decide +kernel
theorem dX10_findTo_87 : decode cX10_findTo 87 = .ok (.if_icmp .ge 62, 3) := by decide +kernel
theorem dX10_findTo_90 : decode cX10_findTo 90 = .ok (.aload_n 0, 1) := by decide +kernel
theorem dX10_findTo_91 : decode cX10_findTo 91 = .ok (.getfield 38, 3) := by decide +kernel
theorem dX10_findTo_94 : decode cX10_findTo 94 = .ok (.iload 5, 2) := by decide +kernel
theorem dX10_findTo_96 : decode cX10_findTo 96 = .ok (.iaload, 1) := by decide +kernel
theorem dX10_findTo_97 : decode cX10_findTo 97 = .ok (.ldc 57, 2) := by decide +kernel
theorem dX10_findTo_99 : decode cX10_findTo 99 = .ok (.if_icmp .ge 50, 3) := by decide +kernel
theorem dX10_findTo_102 : decode cX10_findTo 102 = .ok (.aload_n 0, 1) := by decide +kernel
theorem dX10_findTo_103 : decode cX10_findTo 103 = .ok (.getfield 41, 3) := by decide +kernel
theorem dX10_findTo_106 : decode cX10_findTo 106 = .ok (.iload 5, 2) := by decide +kernel
theorem dX10_findTo_108 : decode cX10_findTo 108 = .ok (.iaload, 1) := by decide +kernel
theorem dX10_findTo_109 : decode cX10_findTo 109 = .ok (.aload_n 0, 1) := by decide +kernel
theorem dX10_findTo_110 : decode cX10_findTo 110 = .ok (.getfield 38, 3) := by decide +kernel
theorem dX10_findTo_113 : decode cX10_findTo 113 = .ok (.iload 5, 2) := by decide +kernel
theorem dX10_findTo_115 : decode cX10_findTo 115 = .ok (.iaload, 1) := by decide +kernel
theorem dX10_findTo_116 : decode cX10_findTo 116 = .ok (.iadd, 1) := by decide +kernel
theorem dX10_findTo_117 : decode cX10_findTo 117 = .ok (.aload_n 0, 1) := by decide +kernel
theorem dX10_findTo_118 : decode cX10_findTo 118 = .ok (.getfield 38, 3) := by decide +kernel
theorem dX10_findTo_121 : decode cX10_findTo 121 = .ok (.iload_n 3, 1) := by decide +kernel
theorem dX10_findTo_122 : decode cX10_findTo 122 = .ok (.iaload, 1) := by decide +kernel
theorem dX10_findTo_123 : decode cX10_findTo 123 = .ok (.if_icmp .ge 26, 3) := by decide +kernel
theorem dX10_findTo_126 : decode cX10_findTo 126 = .ok (.aload_n 0, 1) := by decide +kernel
theorem dX10_findTo_127 : decode cX10_findTo 127 = .ok (.getfield 38, 3) := by decide +kernel
theorem dX10_findTo_130 : decode cX10_findTo 130 = .ok (.iload_n 3, 1) := by decide +kernel
theorem dX10_findTo_131 : decode cX10_findTo 131 = .ok (.aload_n 0, 1) := by decide +kernel
theorem dX10_findTo_132 : decode cX10_findTo 132 = .ok (.getfield 41, 3) := by decide +kernel
theorem dX10_findTo_135 : decode cX10_findTo 135 = .ok (.iload 5, 2) := by decide +kernel
theorem dX10_findTo_137 : decode cX10_findTo 137 = .ok (.iaload, 1) := by decide +kernel
theorem dX10_findTo_138 : decode cX10_findTo 138 = .ok (.aload_n 0, 1) := by decide +kernel
theorem dX10_findTo_139 : decode cX10_findTo 139 = .ok (.getfield 38, 3) := by decide +kernel
theorem dX10_findTo_142 : decode cX10_findTo 142 = .ok (.iload 5, 2) := by decide +kernel
theorem dX10_findTo_144 : decode cX10_findTo 144 = .ok (.iaload, 1) := by decide +kernel
theorem dX10_findTo_145 : decode cX10_findTo 145 = .ok (.iadd, 1) := by decide +kernel
theorem dX10_findTo_146 : decode cX10_findTo 146 = .ok (.iastore, 1) := by decide +kernel
theorem dX10_findTo_147 : decode cX10_findTo 147 = .ok (.iconst 1, 1) := by decide +kernel
theorem dX10_findTo_148 : decode cX10_findTo 148 = .ok (.istore_n 2, 1) := by decide +kernel
theorem dX10_findTo_149 : decode cX10_findTo 149 = .ok (.iinc 4 1, 3) := by decide +kernel
theorem dX10_findTo_152 : decode cX10_findTo 152 = .ok (.goto (-96), 3) := by decide +kernel
theorem dX10_findTo_155 : decode cX10_findTo 155 = .ok (.iinc 3 1, 3) := by decide +kernel
theorem dX10_findTo_158 : decode cX10_findTo 158 = .ok (.goto (-114), 3) := by decide +kernel
theorem dX10_findTo_161 : decode cX10_findTo 161 = .ok (.goto (-125), 3) := by decide +kernel
theorem dX10_findTo_164 : decode cX10_findTo 164 = .ok (.return_, 1) := by decide +kernel
theorem dX10_stepsIn_0 : decode cX10_stepsIn 0 = .ok (.lload_n 1, 1) := by decide +kernel
theorem dX10_stepsIn_1 : decode cX10_stepsIn 1 = .ok (.iload_n 3, 1) := by decide +kernel
theorem dX10_stepsIn_2 : decode cX10_stepsIn 2 = .ok (.lshr, 1) := by decide +kernel
theorem dX10_stepsIn_3 : decode cX10_stepsIn 3 = .ok (.lconst 1, 1) := by decide +kernel
theorem dX10_stepsIn_4 : decode cX10_stepsIn 4 = .ok (.land, 1) := by decide +kernel
theorem dX10_stepsIn_5 : decode cX10_stepsIn 5 = .ok (.lconst 0, 1) := by decide +kernel
theorem dX10_stepsIn_6 : decode cX10_stepsIn 6 = .ok (.lcmp, 1) := by decide +kernel
theorem dX10_stepsIn_7 : decode cX10_stepsIn 7 = .ok (.ifCond .eq 14, 3) := by decide +kernel
theorem dX10_stepsIn_10 : decode cX10_stepsIn 10 = .ok (.lload_n 1, 1) := by decide +kernel
theorem dX10_stepsIn_11 : decode cX10_stepsIn 11 = .ok (.iload 4, 2) := by decide +kernel
theorem dX10_stepsIn_13 : decode cX10_stepsIn 13 = .ok (.lshr, 1) := by decide +kernel
theorem dX10_stepsIn_14 : decode cX10_stepsIn 14 = .ok (.lconst 1, 1) := by decide +kernel
theorem dX10_stepsIn_15 : decode cX10_stepsIn 15 = .ok (.land, 1) := by decide +kernel
theorem dX10_stepsIn_16 : decode cX10_stepsIn 16 = .ok (.lconst 0, 1) := by decide +kernel
theorem dX10_stepsIn_17 : decode cX10_stepsIn 17 = .ok (.lcmp, 1) := by decide +kernel
theorem dX10_stepsIn_18 : decode cX10_stepsIn 18 = .ok (.ifCond .ne 6, 3) := by decide +kernel
theorem dX10_stepsIn_21 : decode cX10_stepsIn 21 = .ok (.bipush (-4), 2) := by decide +kernel
theorem dX10_stepsIn_23 : decode cX10_stepsIn 23 = .ok (.ireturn, 1) := by decide +kernel
theorem dX10_stepsIn_24 : decode cX10_stepsIn 24 = .ok (.iconst 0, 1) := by decide +kernel
theorem dX10_stepsIn_25 : decode cX10_stepsIn 25 = .ok (.istore 5, 2) := by decide +kernel
theorem dX10_stepsIn_27 : decode cX10_stepsIn 27 = .ok (.iload 5, 2) := by decide +kernel
theorem dX10_stepsIn_29 : decode cX10_stepsIn 29 = .ok (.aload_n 0, 1) := by decide +kernel
theorem dX10_stepsIn_30 : decode cX10_stepsIn 30 = .ok (.iconst 0, 1) := by decide +kernel
theorem dX10_stepsIn_31 : decode cX10_stepsIn 31 = .ok (.invokevirtual 87, 3) := by decide +kernel
theorem dX10_stepsIn_34 : decode cX10_stepsIn 34 = .ok (.if_icmp .ge 33, 3) := by decide +kernel
theorem dX10_stepsIn_37 : decode cX10_stepsIn 37 = .ok (.aload_n 0, 1) := by decide +kernel
theorem dX10_stepsIn_38 : decode cX10_stepsIn 38 = .ok (.getfield 41, 3) := by decide +kernel
theorem dX10_stepsIn_41 : decode cX10_stepsIn 41 = .ok (.iload 5, 2) := by decide +kernel
theorem dX10_stepsIn_43 : decode cX10_stepsIn 43 = .ok (.lload_n 1, 1) := by decide +kernel
theorem dX10_stepsIn_44 : decode cX10_stepsIn 44 = .ok (.iload 5, 2) := by decide +kernel
theorem dX10_stepsIn_46 : decode cX10_stepsIn 46 = .ok (.lshr, 1) := by decide +kernel
theorem dX10_stepsIn_47 : decode cX10_stepsIn 47 = .ok (.lconst 1, 1) := by decide +kernel
theorem dX10_stepsIn_48 : decode cX10_stepsIn 48 = .ok (.land, 1) := by decide +kernel
theorem dX10_stepsIn_49 : decode cX10_stepsIn 49 = .ok (.lconst 1, 1) := by decide +kernel
theorem dX10_stepsIn_50 : decode cX10_stepsIn 50 = .ok (.lcmp, 1) := by decide +kernel
theorem dX10_stepsIn_51 : decode cX10_stepsIn 51 = .ok (.ifCond .ne 7, 3) := by decide +kernel
theorem dX10_stepsIn_54 : decode cX10_stepsIn 54 = .ok (.iconst 1, 1) := by decide +kernel
theorem dX10_stepsIn_55 : decode cX10_stepsIn 55 = .ok (.goto 5, 3) := by decide +kernel
theorem dX10_stepsIn_58 : decode cX10_stepsIn 58 = .ok (.ldc 57, 2) := by decide +kernel
theorem dX10_stepsIn_60 : decode cX10_stepsIn 60 = .ok (.iastore, 1) := by decide +kernel
theorem dX10_stepsIn_61 : decode cX10_stepsIn 61 = .ok (.iinc 5 1, 3) := by decide +kernel
theorem dX10_stepsIn_64 : decode cX10_stepsIn 64 = .ok (.goto (-37), 3) := by decide +kernel
theorem dX10_stepsIn_67 : decode cX10_stepsIn 67 = .ok (.aload_n 0, 1) := by decide +kernel
theorem dX10_stepsIn_68 : decode cX10_stepsIn 68 = .ok (.iload 4, 2) := by decide +kernel
theorem dX10_stepsIn_70 : decode cX10_stepsIn 70 = .ok (.invokevirtual 159, 3) := by decide +kernel
theorem dX10_stepsIn_73 : decode cX10_stepsIn 73 = .ok (.aload_n 0, 1) := by decide +kernel
theorem dX10_stepsIn_74 : decode cX10_stepsIn 74 = .ok (.getfield 38, 3) := by decide +kernel
theorem dX10_stepsIn_77 : decode cX10_stepsIn 77 = .ok (.iload_n 3, 1) := by decide +kernel
theorem dX10_stepsIn_78 : decode cX10_stepsIn 78 = .ok (.iaload, 1) := by decide +kernel
theorem dX10_stepsIn_79 : decode cX10_stepsIn 79 = .ok (.ldc 57, 2) := by decide +kernel
theorem dX10_stepsIn_81 : decode cX10_stepsIn 81 = .ok (.if_icmp .lt 8, 3) := by decide +kernel
theorem dX10_stepsIn_84 : decode cX10_stepsIn 84 = .ok (.bipush (-4), 2) := by decide +kernel
theorem dX10_stepsIn_86 : decode cX10_stepsIn 86 = .ok (.goto 9, 3) := by decide +kernel
theorem dX10_stepsIn_89 : decode cX10_stepsIn 89 = .ok (.aload_n 0, 1) := by decide +kernel
theorem dX10_stepsIn_90 : decode cX10_stepsIn 90 = .ok (.getfield 38, 3) := by decide +kernel
theorem dX10_stepsIn_93 : decode cX10_stepsIn 93 = .ok (.iload_n 3, 1) := by decide +kernel
theorem dX10_stepsIn_94 : decode cX10_stepsIn 94 = .ok (.iaload, 1) := by decide +kernel
theorem dX10_stepsIn_95 : decode cX10_stepsIn 95 = .ok (.ireturn, 1) := by decide +kernel
theorem dX10_way_0 : decode cX10_way 0 = .ok (.aload_n 0, 1) := by decide +kernel
theorem dX10_way_1 : decode cX10_way 1 = .ok (.iload_n 1, 1) := by decide +kernel
theorem dX10_way_2 : decode cX10_way 2 = .ok (.invokevirtual 116, 3) := by decide +kernel
theorem dX10_way_5 : decode cX10_way 5 = .ok (.ifCond .eq 35, 3) := by decide +kernel
theorem dX10_way_8 : decode cX10_way 8 = .ok (.aload_n 0, 1) := by decide +kernel
theorem dX10_way_9 : decode cX10_way 9 = .ok (.iload_n 2, 1) := by decide +kernel
theorem dX10_way_10 : decode cX10_way 10 = .ok (.invokevirtual 116, 3) := by decide +kernel
theorem dX10_way_13 : decode cX10_way 13 = .ok (.ifCond .eq 27, 3) := by decide +kernel
theorem dX10_way_16 : decode cX10_way 16 = .ok (.aload_n 0, 1) := by decide +kernel
theorem dX10_way_17 : decode cX10_way 17 = .ok (.aload_n 0, 1) := by decide +kernel
theorem dX10_way_18 : decode cX10_way 18 = .ok (.iconst 0, 1) := by decide +kernel
theorem dX10_way_19 : decode cX10_way 19 = .ok (.aload_n 0, 1) := by decide +kernel
theorem dX10_way_20 : decode cX10_way 20 = .ok (.getfield 35, 3) := by decide +kernel
theorem dX10_way_23 : decode cX10_way 23 = .ok (.iconst 0, 1) := by decide +kernel
theorem dX10_way_24 : decode cX10_way 24 = .ok (.iaload, 1) := by decide +kernel
theorem dX10_way_25 : decode cX10_way 25 = .ok (.invokevirtual 122, 3) := by decide +kernel
theorem dX10_way_28 : decode cX10_way 28 = .ok (.ldc2_w 163, 3) := by decide +kernel
theorem dX10_way_31 : decode cX10_way 31 = .ok (.lxor, 1) := by decide +kernel
theorem dX10_way_32 : decode cX10_way 32 = .ok (.iload_n 1, 1) := by decide +kernel
theorem dX10_way_33 : decode cX10_way 33 = .ok (.iload_n 2, 1) := by decide +kernel
theorem dX10_way_34 : decode cX10_way 34 = .ok (.invokevirtual 165, 3) := by decide +kernel
theorem dX10_way_37 : decode cX10_way 37 = .ok (.goto 4, 3) := by decide +kernel
theorem dX10_way_40 : decode cX10_way 40 = .ok (.iconst (-1), 1) := by decide +kernel
theorem dX10_way_41 : decode cX10_way 41 = .ok (.ireturn, 1) := by decide +kernel
theorem dX10_sure_0 : decode cX10_sure 0 = .ok (.aload_n 0, 1) := by decide +kernel
theorem dX10_sure_1 : decode cX10_sure 1 = .ok (.iload_n 1, 1) := by decide +kernel
theorem dX10_sure_2 : decode cX10_sure 2 = .ok (.invokevirtual 133, 3) := by decide +kernel
theorem dX10_sure_5 : decode cX10_sure 5 = .ok (.ifCond .eq 33, 3) := by decide +kernel
theorem dX10_sure_8 : decode cX10_sure 8 = .ok (.aload_n 0, 1) := by decide +kernel
theorem dX10_sure_9 : decode cX10_sure 9 = .ok (.iload_n 2, 1) := by decide +kernel
theorem dX10_sure_10 : decode cX10_sure 10 = .ok (.invokevirtual 116, 3) := by decide +kernel
theorem dX10_sure_13 : decode cX10_sure 13 = .ok (.ifCond .eq 25, 3) := by decide +kernel
theorem dX10_sure_16 : decode cX10_sure 16 = .ok (.aload_n 0, 1) := by decide +kernel
theorem dX10_sure_17 : decode cX10_sure 17 = .ok (.iload_n 3, 1) := by decide +kernel
theorem dX10_sure_18 : decode cX10_sure 18 = .ok (.invokevirtual 116, 3) := by decide +kernel
theorem dX10_sure_21 : decode cX10_sure 21 = .ok (.ifCond .eq 17, 3) := by decide +kernel
theorem dX10_sure_24 : decode cX10_sure 24 = .ok (.aload_n 0, 1) := by decide +kernel
theorem dX10_sure_25 : decode cX10_sure 25 = .ok (.aload_n 0, 1) := by decide +kernel
theorem dX10_sure_26 : decode cX10_sure 26 = .ok (.iload_n 1, 1) := by decide +kernel
theorem dX10_sure_27 : decode cX10_sure 27 = .ok (.invokevirtual 136, 3) := by decide +kernel
theorem dX10_sure_30 : decode cX10_sure 30 = .ok (.iload_n 2, 1) := by decide +kernel
theorem dX10_sure_31 : decode cX10_sure 31 = .ok (.iload_n 3, 1) := by decide +kernel
theorem dX10_sure_32 : decode cX10_sure 32 = .ok (.invokevirtual 165, 3) := by decide +kernel
theorem dX10_sure_35 : decode cX10_sure 35 = .ok (.goto 4, 3) := by decide +kernel
theorem dX10_sure_38 : decode cX10_sure 38 = .ok (.iconst (-1), 1) := by decide +kernel
theorem dX10_sure_39 : decode cX10_sure 39 = .ok (.ireturn, 1) := by decide +kernel
theorem dX10_pulled_0 : decode cX10_pulled 0 = .ok (.aload_n 0, 1) := by decide +kernel
theorem dX10_pulled_1 : decode cX10_pulled 1 = .ok (.iconst 0, 1) := by decide +kernel
theorem dX10_pulled_2 : decode cX10_pulled 2 = .ok (.aload_n 0, 1) := by decide +kernel
theorem dX10_pulled_3 : decode cX10_pulled 3 = .ok (.getfield 35, 3) := by decide +kernel
theorem dX10_pulled_6 : decode cX10_pulled 6 = .ok (.iconst 0, 1) := by decide +kernel
theorem dX10_pulled_7 : decode cX10_pulled 7 = .ok (.iaload, 1) := by decide +kernel
theorem dX10_pulled_8 : decode cX10_pulled 8 = .ok (.invokevirtual 122, 3) := by decide +kernel
theorem dX10_pulled_11 : decode cX10_pulled 11 = .ok (.lstore_n 3, 1) := by decide +kernel
theorem dX10_pulled_12 : decode cX10_pulled 12 = .ok (.iconst 0, 1) := by decide +kernel
theorem dX10_pulled_13 : decode cX10_pulled 13 = .ok (.istore 5, 2) := by decide +kernel
theorem dX10_pulled_15 : decode cX10_pulled 15 = .ok (.iload 5, 2) := by decide +kernel
theorem dX10_pulled_17 : decode cX10_pulled 17 = .ok (.aload_n 0, 1) := by decide +kernel
theorem dX10_pulled_18 : decode cX10_pulled 18 = .ok (.iconst 0, 1) := by decide +kernel
theorem dX10_pulled_19 : decode cX10_pulled 19 = .ok (.invokevirtual 87, 3) := by decide +kernel
theorem dX10_pulled_22 : decode cX10_pulled 22 = .ok (.if_icmp .ge 23, 3) := by decide +kernel
theorem dX10_pulled_25 : decode cX10_pulled 25 = .ok (.aload_n 0, 1) := by decide +kernel
theorem dX10_pulled_26 : decode cX10_pulled 26 = .ok (.getfield 41, 3) := by decide +kernel
theorem dX10_pulled_29 : decode cX10_pulled 29 = .ok (.iload 5, 2) := by decide +kernel
theorem dX10_pulled_31 : decode cX10_pulled 31 = .ok (.lload_n 3, 1) := by decide +kernel
theorem dX10_pulled_32 : decode cX10_pulled 32 = .ok (.iload 5, 2) := by decide +kernel
theorem dX10_pulled_34 : decode cX10_pulled 34 = .ok (.lshr, 1) := by decide +kernel
theorem dX10_pulled_35 : decode cX10_pulled 35 = .ok (.lconst 1, 1) := by decide +kernel
theorem dX10_pulled_36 : decode cX10_pulled 36 = .ok (.land, 1) := by decide +kernel
theorem dX10_pulled_37 : decode cX10_pulled 37 = .ok (.l2i, 1) := by decide +kernel
theorem dX10_pulled_38 : decode cX10_pulled 38 = .ok (.iastore, 1) := by decide +kernel
theorem dX10_pulled_39 : decode cX10_pulled 39 = .ok (.iinc 5 1, 3) := by decide +kernel
theorem dX10_pulled_42 : decode cX10_pulled 42 = .ok (.goto (-27), 3) := by decide +kernel
theorem dX10_pulled_45 : decode cX10_pulled 45 = .ok (.aload_n 0, 1) := by decide +kernel
theorem dX10_pulled_46 : decode cX10_pulled 46 = .ok (.iload_n 2, 1) := by decide +kernel
theorem dX10_pulled_47 : decode cX10_pulled 47 = .ok (.invokevirtual 159, 3) := by decide +kernel
theorem dX10_pulled_50 : decode cX10_pulled 50 = .ok (.aload_n 0, 1) := by decide +kernel
theorem dX10_pulled_51 : decode cX10_pulled 51 = .ok (.getfield 38, 3) := by decide +kernel
theorem dX10_pulled_54 : decode cX10_pulled 54 = .ok (.iload_n 1, 1) := by decide +kernel
theorem dX10_pulled_55 : decode cX10_pulled 55 = .ok (.iaload, 1) := by decide +kernel
theorem dX10_pulled_56 : decode cX10_pulled 56 = .ok (.aload_n 0, 1) := by decide +kernel
theorem dX10_pulled_57 : decode cX10_pulled 57 = .ok (.getfield 41, 3) := by decide +kernel
theorem dX10_pulled_60 : decode cX10_pulled 60 = .ok (.iload_n 1, 1) := by decide +kernel
theorem dX10_pulled_61 : decode cX10_pulled 61 = .ok (.iaload, 1) := by decide +kernel
theorem dX10_pulled_62 : decode cX10_pulled 62 = .ok (.iadd, 1) := by decide +kernel
theorem dX10_pulled_63 : decode cX10_pulled 63 = .ok (.ireturn, 1) := by decide +kernel
theorem dX10_manyIn_0 : decode cX10_manyIn 0 = .ok (.iconst 0, 1) := by decide +kernel
theorem dX10_manyIn_1 : decode cX10_manyIn 1 = .ok (.istore_n 1, 1) := by decide +kernel
theorem dX10_manyIn_2 : decode cX10_manyIn 2 = .ok (.iconst 0, 1) := by decide +kernel
theorem dX10_manyIn_3 : decode cX10_manyIn 3 = .ok (.istore_n 2, 1) := by decide +kernel
theorem dX10_manyIn_4 : decode cX10_manyIn 4 = .ok (.iload_n 2, 1) := by decide +kernel
theorem dX10_manyIn_5 : decode cX10_manyIn 5 = .ok (.bipush 10, 2) := by decide +kernel
theorem dX10_manyIn_7 : decode cX10_manyIn 7 = .ok (.if_icmp .ge 17, 3) := by decide +kernel
theorem dX10_manyIn_10 : decode cX10_manyIn 10 = .ok (.iload_n 1, 1) := by decide +kernel
theorem dX10_manyIn_11 : decode cX10_manyIn 11 = .ok (.iload_n 0, 1) := by decide +kernel
theorem dX10_manyIn_12 : decode cX10_manyIn 12 = .ok (.iload_n 2, 1) := by decide +kernel
theorem dX10_manyIn_13 : decode cX10_manyIn 13 = .ok (.ishr, 1) := by decide +kernel
theorem dX10_manyIn_14 : decode cX10_manyIn 14 = .ok (.iconst 1, 1) := by decide +kernel
theorem dX10_manyIn_15 : decode cX10_manyIn 15 = .ok (.iand, 1) := by decide +kernel
theorem dX10_manyIn_16 : decode cX10_manyIn 16 = .ok (.iadd, 1) := by decide +kernel
theorem dX10_manyIn_17 : decode cX10_manyIn 17 = .ok (.istore_n 1, 1) := by decide +kernel
theorem dX10_manyIn_18 : decode cX10_manyIn 18 = .ok (.iinc 2 1, 3) := by decide +kernel
theorem dX10_manyIn_21 : decode cX10_manyIn 21 = .ok (.goto (-17), 3) := by decide +kernel
theorem dX10_manyIn_24 : decode cX10_manyIn 24 = .ok (.iload_n 1, 1) := by decide +kernel
theorem dX10_manyIn_25 : decode cX10_manyIn 25 = .ok (.ireturn, 1) := by decide +kernel
theorem dX10_friends_0 : decode cX10_friends 0 = .ok (.bipush (-4), 2) := by decide +kernel
theorem dX10_friends_2 : decode cX10_friends 2 = .ok (.istore_n 3, 1) := by decide +kernel
theorem dX10_friends_3 : decode cX10_friends 3 = .ok (.iconst 0, 1) := by decide +kernel
theorem dX10_friends_4 : decode cX10_friends 4 = .ok (.istore 4, 2) := by decide +kernel
theorem dX10_friends_6 : decode cX10_friends 6 = .ok (.iload 4, 2) := by decide +kernel
theorem dX10_friends_8 : decode cX10_friends 8 = .ok (.iconst 1, 1) := by decide +kernel
theorem dX10_friends_9 : decode cX10_friends 9 = .ok (.aload_n 0, 1) := by decide +kernel
theorem dX10_friends_10 : decode cX10_friends 10 = .ok (.getfield 35, 3) := by decide +kernel
theorem dX10_friends_13 : decode cX10_friends 13 = .ok (.iconst 1, 1) := by decide +kernel
theorem dX10_friends_14 : decode cX10_friends 14 = .ok (.iaload, 1) := by decide +kernel
theorem dX10_friends_15 : decode cX10_friends 15 = .ok (.ishl, 1) := by decide +kernel
theorem dX10_friends_16 : decode cX10_friends 16 = .ok (.if_icmp .ge 136, 3) := by decide +kernel
theorem dX10_friends_19 : decode cX10_friends 19 = .ok (.iload_n 3, 1) := by decide +kernel
theorem dX10_friends_20 : decode cX10_friends 20 = .ok (.bipush (-4), 2) := by decide +kernel
theorem dX10_friends_22 : decode cX10_friends 22 = .ok (.if_icmp .eq 12, 3) := by decide +kernel
theorem dX10_friends_25 : decode cX10_friends 25 = .ok (.iload 4, 2) := by decide +kernel
theorem dX10_friends_27 : decode cX10_friends 27 = .ok (.invokestatic 169, 3) := by decide +kernel
theorem dX10_friends_30 : decode cX10_friends 30 = .ok (.iload_n 3, 1) := by decide +kernel
theorem dX10_friends_31 : decode cX10_friends 31 = .ok (.if_icmp .ge 7, 3) := by decide +kernel
theorem dX10_friends_34 : decode cX10_friends 34 = .ok (.iconst 1, 1) := by decide +kernel
theorem dX10_friends_35 : decode cX10_friends 35 = .ok (.goto 4, 3) := by decide +kernel
theorem dX10_friends_38 : decode cX10_friends 38 = .ok (.iconst 0, 1) := by decide +kernel
theorem dX10_friends_39 : decode cX10_friends 39 = .ok (.istore 5, 2) := by decide +kernel
theorem dX10_friends_41 : decode cX10_friends 41 = .ok (.aload_n 0, 1) := by decide +kernel
theorem dX10_friends_42 : decode cX10_friends 42 = .ok (.iconst 0, 1) := by decide +kernel
theorem dX10_friends_43 : decode cX10_friends 43 = .ok (.sipush 462, 3) := by decide +kernel
theorem dX10_friends_46 : decode cX10_friends 46 = .ok (.invokevirtual 144, 3) := by decide +kernel
theorem dX10_friends_49 : decode cX10_friends 49 = .ok (.iconst 0, 1) := by decide +kernel
theorem dX10_friends_50 : decode cX10_friends 50 = .ok (.istore 6, 2) := by decide +kernel
theorem dX10_friends_52 : decode cX10_friends 52 = .ok (.iload 6, 2) := by decide +kernel
theorem dX10_friends_54 : decode cX10_friends 54 = .ok (.aload_n 0, 1) := by decide +kernel
theorem dX10_friends_55 : decode cX10_friends 55 = .ok (.getfield 35, 3) := by decide +kernel
theorem dX10_friends_58 : decode cX10_friends 58 = .ok (.iconst 1, 1) := by decide +kernel
theorem dX10_friends_59 : decode cX10_friends 59 = .ok (.iaload, 1) := by decide +kernel
theorem dX10_friends_60 : decode cX10_friends 60 = .ok (.if_icmp .ge 51, 3) := by decide +kernel
theorem dX10_friends_63 : decode cX10_friends 63 = .ok (.iload 5, 2) := by decide +kernel
theorem dX10_friends_65 : decode cX10_friends 65 = .ok (.ifCond .eq 46, 3) := by decide +kernel
theorem dX10_friends_68 : decode cX10_friends 68 = .ok (.iload 4, 2) := by decide +kernel
theorem dX10_friends_70 : decode cX10_friends 70 = .ok (.iload 6, 2) := by decide +kernel
theorem dX10_friends_72 : decode cX10_friends 72 = .ok (.ishr, 1) := by decide +kernel
theorem dX10_friends_73 : decode cX10_friends 73 = .ok (.iconst 1, 1) := by decide +kernel
theorem dX10_friends_74 : decode cX10_friends 74 = .ok (.iand, 1) := by decide +kernel
theorem dX10_friends_75 : decode cX10_friends 75 = .ok (.iconst 1, 1) := by decide +kernel
theorem dX10_friends_76 : decode cX10_friends 76 = .ok (.if_icmp .ne 29, 3) := by decide +kernel
theorem dX10_friends_79 : decode cX10_friends 79 = .ok (.aload_n 0, 1) := by decide +kernel
theorem dX10_friends_80 : decode cX10_friends 80 = .ok (.iconst 0, 1) := by decide +kernel
theorem dX10_friends_81 : decode cX10_friends 81 = .ok (.iload 6, 2) := by decide +kernel
theorem dX10_friends_83 : decode cX10_friends 83 = .ok (.invokevirtual 151, 3) := by decide +kernel
theorem dX10_friends_86 : decode cX10_friends 86 = .ok (.istore 5, 2) := by decide +kernel
theorem dX10_friends_88 : decode cX10_friends 88 = .ok (.aload_n 0, 1) := by decide +kernel
theorem dX10_friends_89 : decode cX10_friends 89 = .ok (.getfield 35, 3) := by decide +kernel
theorem dX10_friends_92 : decode cX10_friends 92 = .ok (.sipush 484, 3) := by decide +kernel
theorem dX10_friends_95 : decode cX10_friends 95 = .ok (.iload 6, 2) := by decide +kernel
theorem dX10_friends_97 : decode cX10_friends 97 = .ok (.iadd, 1) := by decide +kernel
theorem dX10_friends_98 : decode cX10_friends 98 = .ok (.aload_n 0, 1) := by decide +kernel
theorem dX10_friends_99 : decode cX10_friends 99 = .ok (.getfield 35, 3) := by decide +kernel
theorem dX10_friends_102 : decode cX10_friends 102 = .ok (.iconst 0, 1) := by decide +kernel
theorem dX10_friends_103 : decode cX10_friends 103 = .ok (.iaload, 1) := by decide +kernel
theorem dX10_friends_104 : decode cX10_friends 104 = .ok (.iastore, 1) := by decide +kernel
theorem dX10_friends_105 : decode cX10_friends 105 = .ok (.iinc 6 1, 3) := by decide +kernel
theorem dX10_friends_108 : decode cX10_friends 108 = .ok (.goto (-56), 3) := by decide +kernel
theorem dX10_friends_111 : decode cX10_friends 111 = .ok (.iload 5, 2) := by decide +kernel
theorem dX10_friends_113 : decode cX10_friends 113 = .ok (.ifCond .eq 33, 3) := by decide +kernel
theorem dX10_friends_116 : decode cX10_friends 116 = .ok (.aload_n 0, 1) := by decide +kernel
theorem dX10_friends_117 : decode cX10_friends 117 = .ok (.aload_n 0, 1) := by decide +kernel
theorem dX10_friends_118 : decode cX10_friends 118 = .ok (.sipush 462, 3) := by decide +kernel
theorem dX10_friends_121 : decode cX10_friends 121 = .ok (.aload_n 0, 1) := by decide +kernel
theorem dX10_friends_122 : decode cX10_friends 122 = .ok (.getfield 35, 3) := by decide +kernel
theorem dX10_friends_125 : decode cX10_friends 125 = .ok (.iconst 0, 1) := by decide +kernel
theorem dX10_friends_126 : decode cX10_friends 126 = .ok (.iaload, 1) := by decide +kernel
theorem dX10_friends_127 : decode cX10_friends 127 = .ok (.invokevirtual 126, 3) := by decide +kernel
theorem dX10_friends_130 : decode cX10_friends 130 = .ok (.iload_n 1, 1) := by decide +kernel
theorem dX10_friends_131 : decode cX10_friends 131 = .ok (.iload_n 2, 1) := by decide +kernel
theorem dX10_friends_132 : decode cX10_friends 132 = .ok (.invokevirtual 165, 3) := by decide +kernel
theorem dX10_friends_135 : decode cX10_friends 135 = .ok (.bipush (-4), 2) := by decide +kernel
theorem dX10_friends_137 : decode cX10_friends 137 = .ok (.if_icmp .eq 9, 3) := by decide +kernel
theorem dX10_friends_140 : decode cX10_friends 140 = .ok (.iload 4, 2) := by decide +kernel
theorem dX10_friends_142 : decode cX10_friends 142 = .ok (.invokestatic 169, 3) := by decide +kernel
theorem dX10_friends_145 : decode cX10_friends 145 = .ok (.istore_n 3, 1) := by decide +kernel
theorem dX10_friends_146 : decode cX10_friends 146 = .ok (.iinc 4 1, 3) := by decide +kernel
theorem dX10_friends_149 : decode cX10_friends 149 = .ok (.goto (-143), 3) := by decide +kernel
theorem dX10_friends_152 : decode cX10_friends 152 = .ok (.iload_n 3, 1) := by decide +kernel
theorem dX10_friends_153 : decode cX10_friends 153 = .ok (.ireturn, 1) := by decide +kernel
theorem dX10_pull_0 : decode cX10_pull 0 = .ok (.aload_n 0, 1) := by decide +kernel
theorem dX10_pull_1 : decode cX10_pull 1 = .ok (.iload_n 1, 1) := by decide +kernel
theorem dX10_pull_2 : decode cX10_pull 2 = .ok (.invokevirtual 116, 3) := by decide +kernel
theorem dX10_pull_5 : decode cX10_pull 5 = .ok (.ifCond .eq 11, 3) := by decide +kernel
theorem dX10_pull_8 : decode cX10_pull 8 = .ok (.aload_n 0, 1) := by decide +kernel
theorem dX10_pull_9 : decode cX10_pull 9 = .ok (.iload_n 2, 1) := by decide +kernel
theorem dX10_pull_10 : decode cX10_pull 10 = .ok (.invokevirtual 116, 3) := by decide +kernel
theorem dX10_pull_13 : decode cX10_pull 13 = .ok (.ifCond .ne 5, 3) := by decide +kernel
theorem dX10_pull_16 : decode cX10_pull 16 = .ok (.iconst (-1), 1) := by decide +kernel
theorem dX10_pull_17 : decode cX10_pull 17 = .ok (.ireturn, 1) := by decide +kernel
theorem dX10_pull_18 : decode cX10_pull 18 = .ok (.iload_n 3, 1) := by decide +kernel
theorem dX10_pull_19 : decode cX10_pull 19 = .ok (.ifCond .eq 12, 3) := by decide +kernel
theorem dX10_pull_22 : decode cX10_pull 22 = .ok (.aload_n 0, 1) := by decide +kernel
theorem dX10_pull_23 : decode cX10_pull 23 = .ok (.iload_n 1, 1) := by decide +kernel
theorem dX10_pull_24 : decode cX10_pull 24 = .ok (.iload_n 2, 1) := by decide +kernel
theorem dX10_pull_25 : decode cX10_pull 25 = .ok (.invokevirtual 172, 3) := by decide +kernel
theorem dX10_pull_28 : decode cX10_pull 28 = .ok (.goto 9, 3) := by decide +kernel
theorem dX10_pull_31 : decode cX10_pull 31 = .ok (.aload_n 0, 1) := by decide +kernel
theorem dX10_pull_32 : decode cX10_pull 32 = .ok (.iload_n 1, 1) := by decide +kernel
theorem dX10_pull_33 : decode cX10_pull 33 = .ok (.iload_n 2, 1) := by decide +kernel
theorem dX10_pull_34 : decode cX10_pull 34 = .ok (.invokevirtual 175, 3) := by decide +kernel
theorem dX10_pull_37 : decode cX10_pull 37 = .ok (.ireturn, 1) := by decide +kernel
theorem dX10_wander_0 : decode cX10_wander 0 = .ok (.aload_n 0, 1) := by decide +kernel
theorem dX10_wander_1 : decode cX10_wander 1 = .ok (.iload_n 1, 1) := by decide +kernel
theorem dX10_wander_2 : decode cX10_wander 2 = .ok (.invokevirtual 133, 3) := by decide +kernel
theorem dX10_wander_5 : decode cX10_wander 5 = .ok (.ifCond .eq 19, 3) := by decide +kernel
theorem dX10_wander_8 : decode cX10_wander 8 = .ok (.aload_n 0, 1) := by decide +kernel
theorem dX10_wander_9 : decode cX10_wander 9 = .ok (.iload_n 2, 1) := by decide +kernel
theorem dX10_wander_10 : decode cX10_wander 10 = .ok (.invokevirtual 116, 3) := by decide +kernel
theorem dX10_wander_13 : decode cX10_wander 13 = .ok (.ifCond .eq 11, 3) := by decide +kernel
theorem dX10_wander_16 : decode cX10_wander 16 = .ok (.aload_n 0, 1) := by decide +kernel
theorem dX10_wander_17 : decode cX10_wander 17 = .ok (.iload_n 3, 1) := by decide +kernel
theorem dX10_wander_18 : decode cX10_wander 18 = .ok (.invokevirtual 116, 3) := by decide +kernel
theorem dX10_wander_21 : decode cX10_wander 21 = .ok (.ifCond .ne 5, 3) := by decide +kernel
theorem dX10_wander_24 : decode cX10_wander 24 = .ok (.iconst (-1), 1) := by decide +kernel
theorem dX10_wander_25 : decode cX10_wander 25 = .ok (.ireturn, 1) := by decide +kernel
theorem dX10_wander_26 : decode cX10_wander 26 = .ok (.aload_n 0, 1) := by decide +kernel
theorem dX10_wander_27 : decode cX10_wander 27 = .ok (.iconst 0, 1) := by decide +kernel
theorem dX10_wander_28 : decode cX10_wander 28 = .ok (.aload_n 0, 1) := by decide +kernel
theorem dX10_wander_29 : decode cX10_wander 29 = .ok (.getfield 35, 3) := by decide +kernel
theorem dX10_wander_32 : decode cX10_wander 32 = .ok (.iconst 0, 1) := by decide +kernel
theorem dX10_wander_33 : decode cX10_wander 33 = .ok (.iaload, 1) := by decide +kernel
theorem dX10_wander_34 : decode cX10_wander 34 = .ok (.invokevirtual 122, 3) := by decide +kernel
theorem dX10_wander_37 : decode cX10_wander 37 = .ok (.lstore 4, 2) := by decide +kernel
theorem dX10_wander_39 : decode cX10_wander 39 = .ok (.lload 4, 2) := by decide +kernel
theorem dX10_wander_41 : decode cX10_wander 41 = .ok (.iload_n 2, 1) := by decide +kernel
theorem dX10_wander_42 : decode cX10_wander 42 = .ok (.lshr, 1) := by decide +kernel
theorem dX10_wander_43 : decode cX10_wander 43 = .ok (.lconst 1, 1) := by decide +kernel
theorem dX10_wander_44 : decode cX10_wander 44 = .ok (.land, 1) := by decide +kernel
theorem dX10_wander_45 : decode cX10_wander 45 = .ok (.lconst 1, 1) := by decide +kernel
theorem dX10_wander_46 : decode cX10_wander 46 = .ok (.lcmp, 1) := by decide +kernel
theorem dX10_wander_47 : decode cX10_wander 47 = .ok (.ifCond .eq 14, 3) := by decide +kernel
theorem dX10_wander_50 : decode cX10_wander 50 = .ok (.lload 4, 2) := by decide +kernel
theorem dX10_wander_52 : decode cX10_wander 52 = .ok (.iload_n 3, 1) := by decide +kernel
theorem dX10_wander_53 : decode cX10_wander 53 = .ok (.lshr, 1) := by decide +kernel
theorem dX10_wander_54 : decode cX10_wander 54 = .ok (.lconst 1, 1) := by decide +kernel
theorem dX10_wander_55 : decode cX10_wander 55 = .ok (.land, 1) := by decide +kernel
theorem dX10_wander_56 : decode cX10_wander 56 = .ok (.lconst 1, 1) := by decide +kernel
theorem dX10_wander_57 : decode cX10_wander 57 = .ok (.lcmp, 1) := by decide +kernel
theorem dX10_wander_58 : decode cX10_wander 58 = .ok (.ifCond .ne 6, 3) := by decide +kernel
theorem dX10_wander_61 : decode cX10_wander 61 = .ok (.bipush (-4), 2) := by decide +kernel
theorem dX10_wander_63 : decode cX10_wander 63 = .ok (.ireturn, 1) := by decide +kernel
theorem dX10_wander_64 : decode cX10_wander 64 = .ok (.aload_n 0, 1) := by decide +kernel
theorem dX10_wander_65 : decode cX10_wander 65 = .ok (.iload_n 1, 1) := by decide +kernel
theorem dX10_wander_66 : decode cX10_wander 66 = .ok (.invokevirtual 136, 3) := by decide +kernel
theorem dX10_wander_69 : decode cX10_wander 69 = .ok (.lstore 6, 2) := by decide +kernel
theorem dX10_wander_71 : decode cX10_wander 71 = .ok (.iconst 0, 1) := by decide +kernel
theorem dX10_wander_72 : decode cX10_wander 72 = .ok (.istore 8, 2) := by decide +kernel
theorem dX10_wander_74 : decode cX10_wander 74 = .ok (.iload 8, 2) := by decide +kernel
theorem dX10_wander_76 : decode cX10_wander 76 = .ok (.aload_n 0, 1) := by decide +kernel
theorem dX10_wander_77 : decode cX10_wander 77 = .ok (.iconst 0, 1) := by decide +kernel
theorem dX10_wander_78 : decode cX10_wander 78 = .ok (.invokevirtual 87, 3) := by decide +kernel
theorem dX10_wander_81 : decode cX10_wander 81 = .ok (.if_icmp .ge 33, 3) := by decide +kernel
theorem dX10_wander_84 : decode cX10_wander 84 = .ok (.aload_n 0, 1) := by decide +kernel
theorem dX10_wander_85 : decode cX10_wander 85 = .ok (.getfield 41, 3) := by decide +kernel
theorem dX10_wander_88 : decode cX10_wander 88 = .ok (.iload 8, 2) := by decide +kernel
theorem dX10_wander_90 : decode cX10_wander 90 = .ok (.lload 6, 2) := by decide +kernel
theorem dX10_wander_92 : decode cX10_wander 92 = .ok (.iload 8, 2) := by decide +kernel
theorem dX10_wander_94 : decode cX10_wander 94 = .ok (.lshr, 1) := by decide +kernel
theorem dX10_wander_95 : decode cX10_wander 95 = .ok (.lconst 1, 1) := by decide +kernel
theorem dX10_wander_96 : decode cX10_wander 96 = .ok (.land, 1) := by decide +kernel
theorem dX10_wander_97 : decode cX10_wander 97 = .ok (.lconst 1, 1) := by decide +kernel
theorem dX10_wander_98 : decode cX10_wander 98 = .ok (.lcmp, 1) := by decide +kernel
theorem dX10_wander_99 : decode cX10_wander 99 = .ok (.ifCond .ne 7, 3) := by decide +kernel
theorem dX10_wander_102 : decode cX10_wander 102 = .ok (.iconst 1, 1) := by decide +kernel
theorem dX10_wander_103 : decode cX10_wander 103 = .ok (.goto 4, 3) := by decide +kernel
theorem dX10_wander_106 : decode cX10_wander 106 = .ok (.iconst 2, 1) := by decide +kernel
theorem dX10_wander_107 : decode cX10_wander 107 = .ok (.iastore, 1) := by decide +kernel
theorem dX10_wander_108 : decode cX10_wander 108 = .ok (.iinc 8 1, 3) := by decide +kernel
theorem dX10_wander_111 : decode cX10_wander 111 = .ok (.goto (-37), 3) := by decide +kernel
theorem dX10_wander_114 : decode cX10_wander 114 = .ok (.iload_n 2, 1) := by decide +kernel
theorem dX10_wander_115 : decode cX10_wander 115 = .ok (.istore 8, 2) := by decide +kernel
theorem dX10_wander_117 : decode cX10_wander 117 = .ok (.iconst 0, 1) := by decide +kernel
theorem dX10_wander_118 : decode cX10_wander 118 = .ok (.istore 9, 2) := by decide +kernel
theorem dX10_wander_120 : decode cX10_wander 120 = .ok (.iload 9, 2) := by decide +kernel
theorem dX10_wander_122 : decode cX10_wander 122 = .ok (.sipush 200, 3) := by decide +kernel
theorem dX10_wander_125 : decode cX10_wander 125 = .ok (.if_icmp .gt 176, 3) := by decide +kernel
theorem dX10_wander_128 : decode cX10_wander 128 = .ok (.iload 8, 2) := by decide +kernel
theorem dX10_wander_130 : decode cX10_wander 130 = .ok (.iload_n 3, 1) := by decide +kernel
theorem dX10_wander_131 : decode cX10_wander 131 = .ok (.if_icmp .ne 6, 3) := by decide +kernel
theorem dX10_wander_134 : decode cX10_wander 134 = .ok (.iload 9, 2) := by decide +kernel
theorem dX10_wander_136 : decode cX10_wander 136 = .ok (.ireturn, 1) := by decide +kernel
theorem dX10_wander_137 : decode cX10_wander 137 = .ok (.iconst 0, 1) := by decide +kernel
theorem dX10_wander_138 : decode cX10_wander 138 = .ok (.istore 10, 2) := by decide +kernel
theorem dX10_wander_140 : decode cX10_wander 140 = .ok (.iload 10, 2) := by decide +kernel
theorem dX10_wander_142 : decode cX10_wander 142 = .ok (.iconst 4, 1) := by decide +kernel
theorem dX10_wander_143 : decode cX10_wander 143 = .ok (.if_icmp .ge 47, 3) := by decide +kernel
theorem dX10_wander_146 : decode cX10_wander 146 = .ok (.aload_n 0, 1) := by decide +kernel
theorem dX10_wander_147 : decode cX10_wander 147 = .ok (.iload 8, 2) := by decide +kernel
theorem dX10_wander_149 : decode cX10_wander 149 = .ok (.iload 10, 2) := by decide +kernel
theorem dX10_wander_151 : decode cX10_wander 151 = .ok (.invokevirtual 155, 3) := by decide +kernel
theorem dX10_wander_154 : decode cX10_wander 154 = .ok (.istore 11, 2) := by decide +kernel
theorem dX10_wander_156 : decode cX10_wander 156 = .ok (.iload 11, 2) := by decide +kernel
theorem dX10_wander_158 : decode cX10_wander 158 = .ok (.bipush (-4), 2) := by decide +kernel
theorem dX10_wander_160 : decode cX10_wander 160 = .ok (.if_icmp .eq 24, 3) := by decide +kernel
theorem dX10_wander_163 : decode cX10_wander 163 = .ok (.lload 4, 2) := by decide +kernel
theorem dX10_wander_165 : decode cX10_wander 165 = .ok (.iload 11, 2) := by decide +kernel
theorem dX10_wander_167 : decode cX10_wander 167 = .ok (.lshr, 1) := by decide +kernel
theorem dX10_wander_168 : decode cX10_wander 168 = .ok (.lconst 1, 1) := by decide +kernel
theorem dX10_wander_169 : decode cX10_wander 169 = .ok (.land, 1) := by decide +kernel
theorem dX10_wander_170 : decode cX10_wander 170 = .ok (.lconst 1, 1) := by decide +kernel
theorem dX10_wander_171 : decode cX10_wander 171 = .ok (.lcmp, 1) := by decide +kernel
theorem dX10_wander_172 : decode cX10_wander 172 = .ok (.ifCond .ne 12, 3) := by decide +kernel
theorem dX10_wander_175 : decode cX10_wander 175 = .ok (.aload_n 0, 1) := by decide +kernel
theorem dX10_wander_176 : decode cX10_wander 176 = .ok (.getfield 41, 3) := by decide +kernel
theorem dX10_wander_179 : decode cX10_wander 179 = .ok (.iload 11, 2) := by decide +kernel
theorem dX10_wander_181 : decode cX10_wander 181 = .ok (.ldc 57, 2) := by decide +kernel
theorem dX10_wander_183 : decode cX10_wander 183 = .ok (.iastore, 1) := by decide +kernel
theorem dX10_wander_184 : decode cX10_wander 184 = .ok (.iinc 10 1, 3) := by decide +kernel
theorem dX10_wander_187 : decode cX10_wander 187 = .ok (.goto (-47), 3) := by decide +kernel
theorem dX10_wander_190 : decode cX10_wander 190 = .ok (.aload_n 0, 1) := by decide +kernel
theorem dX10_wander_191 : decode cX10_wander 191 = .ok (.iload_n 3, 1) := by decide +kernel
theorem dX10_wander_192 : decode cX10_wander 192 = .ok (.invokevirtual 159, 3) := by decide +kernel
theorem dX10_wander_195 : decode cX10_wander 195 = .ok (.aload_n 0, 1) := by decide +kernel
theorem dX10_wander_196 : decode cX10_wander 196 = .ok (.getfield 38, 3) := by decide +kernel
theorem dX10_wander_199 : decode cX10_wander 199 = .ok (.iload 8, 2) := by decide +kernel
theorem dX10_wander_201 : decode cX10_wander 201 = .ok (.iaload, 1) := by decide +kernel
theorem dX10_wander_202 : decode cX10_wander 202 = .ok (.ldc 57, 2) := by decide +kernel
theorem dX10_wander_204 : decode cX10_wander 204 = .ok (.if_icmp .lt 6, 3) := by decide +kernel
theorem dX10_wander_207 : decode cX10_wander 207 = .ok (.bipush (-4), 2) := by decide +kernel
theorem dX10_wander_209 : decode cX10_wander 209 = .ok (.ireturn, 1) := by decide +kernel
theorem dX10_wander_210 : decode cX10_wander 210 = .ok (.bipush (-4), 2) := by decide +kernel
theorem dX10_wander_212 : decode cX10_wander 212 = .ok (.istore 10, 2) := by decide +kernel
theorem dX10_wander_214 : decode cX10_wander 214 = .ok (.iconst 3, 1) := by decide +kernel
theorem dX10_wander_215 : decode cX10_wander 215 = .ok (.istore 11, 2) := by decide +kernel
theorem dX10_wander_217 : decode cX10_wander 217 = .ok (.iload 11, 2) := by decide +kernel
theorem dX10_wander_219 : decode cX10_wander 219 = .ok (.ifCond .lt 72, 3) := by decide +kernel
theorem dX10_wander_222 : decode cX10_wander 222 = .ok (.aload_n 0, 1) := by decide +kernel
theorem dX10_wander_223 : decode cX10_wander 223 = .ok (.iload 8, 2) := by decide +kernel
theorem dX10_wander_225 : decode cX10_wander 225 = .ok (.iload 11, 2) := by decide +kernel
theorem dX10_wander_227 : decode cX10_wander 227 = .ok (.invokevirtual 155, 3) := by decide +kernel
theorem dX10_wander_230 : decode cX10_wander 230 = .ok (.istore 12, 2) := by decide +kernel
theorem dX10_wander_232 : decode cX10_wander 232 = .ok (.iload 12, 2) := by decide +kernel
theorem dX10_wander_234 : decode cX10_wander 234 = .ok (.bipush (-4), 2) := by decide +kernel
theorem dX10_wander_236 : decode cX10_wander 236 = .ok (.if_icmp .eq 45, 3) := by decide +kernel
theorem dX10_wander_239 : decode cX10_wander 239 = .ok (.aload_n 0, 1) := by decide +kernel
theorem dX10_wander_240 : decode cX10_wander 240 = .ok (.getfield 41, 3) := by decide +kernel
theorem dX10_wander_243 : decode cX10_wander 243 = .ok (.iload 12, 2) := by decide +kernel
theorem dX10_wander_245 : decode cX10_wander 245 = .ok (.iaload, 1) := by decide +kernel
theorem dX10_wander_246 : decode cX10_wander 246 = .ok (.ldc 57, 2) := by decide +kernel
theorem dX10_wander_248 : decode cX10_wander 248 = .ok (.if_icmp .ge 33, 3) := by decide +kernel
theorem dX10_wander_251 : decode cX10_wander 251 = .ok (.aload_n 0, 1) := by decide +kernel
theorem dX10_wander_252 : decode cX10_wander 252 = .ok (.getfield 41, 3) := by decide +kernel
theorem dX10_wander_255 : decode cX10_wander 255 = .ok (.iload 12, 2) := by decide +kernel
theorem dX10_wander_257 : decode cX10_wander 257 = .ok (.iaload, 1) := by decide +kernel
theorem dX10_wander_258 : decode cX10_wander 258 = .ok (.aload_n 0, 1) := by decide +kernel
theorem dX10_wander_259 : decode cX10_wander 259 = .ok (.getfield 38, 3) := by decide +kernel
theorem dX10_wander_262 : decode cX10_wander 262 = .ok (.iload 12, 2) := by decide +kernel
theorem dX10_wander_264 : decode cX10_wander 264 = .ok (.iaload, 1) := by decide +kernel
theorem dX10_wander_265 : decode cX10_wander 265 = .ok (.iadd, 1) := by decide +kernel
theorem dX10_wander_266 : decode cX10_wander 266 = .ok (.aload_n 0, 1) := by decide +kernel
theorem dX10_wander_267 : decode cX10_wander 267 = .ok (.getfield 38, 3) := by decide +kernel
theorem dX10_wander_270 : decode cX10_wander 270 = .ok (.iload 8, 2) := by decide +kernel
theorem dX10_wander_272 : decode cX10_wander 272 = .ok (.iaload, 1) := by decide +kernel
theorem dX10_wander_273 : decode cX10_wander 273 = .ok (.if_icmp .ne 8, 3) := by decide +kernel
theorem dX10_wander_276 : decode cX10_wander 276 = .ok (.iload 12, 2) := by decide +kernel
theorem dX10_wander_278 : decode cX10_wander 278 = .ok (.goto 5, 3) := by decide +kernel
theorem dX10_wander_281 : decode cX10_wander 281 = .ok (.iload 10, 2) := by decide +kernel
theorem dX10_wander_283 : decode cX10_wander 283 = .ok (.istore 10, 2) := by decide +kernel
theorem dX10_wander_285 : decode cX10_wander 285 = .ok (.iinc 11 (-1), 3) := by decide +kernel
theorem dX10_wander_288 : decode cX10_wander 288 = .ok (.goto (-71), 3) := by decide +kernel
theorem dX10_wander_291 : decode cX10_wander 291 = .ok (.iload 10, 2) := by decide +kernel
theorem dX10_wander_293 : decode cX10_wander 293 = .ok (.istore 8, 2) := by decide +kernel
theorem dX10_wander_295 : decode cX10_wander 295 = .ok (.iinc 9 1, 3) := by decide +kernel
theorem dX10_wander_298 : decode cX10_wander 298 = .ok (.goto (-178), 3) := by decide +kernel
theorem dX10_wander_301 : decode cX10_wander 301 = .ok (.bipush (-4), 2) := by decide +kernel
theorem dX10_wander_303 : decode cX10_wander 303 = .ok (.ireturn, 1) := by decide +kernel
theorem dX10_wrong_0 : decode cX10_wrong 0 = .ok (.aload_n 0, 1) := by decide +kernel
theorem dX10_wrong_1 : decode cX10_wrong 1 = .ok (.iload_n 1, 1) := by decide +kernel
theorem dX10_wrong_2 : decode cX10_wrong 2 = .ok (.invokevirtual 133, 3) := by decide +kernel
theorem dX10_wrong_5 : decode cX10_wrong 5 = .ok (.ifCond .eq 12, 3) := by decide +kernel
theorem dX10_wrong_8 : decode cX10_wrong 8 = .ok (.iload_n 2, 1) := by decide +kernel
theorem dX10_wrong_9 : decode cX10_wrong 9 = .ok (.iconst 0, 1) := by decide +kernel
theorem dX10_wrong_10 : decode cX10_wrong 10 = .ok (.iconst 1, 1) := by decide +kernel
theorem dX10_wrong_11 : decode cX10_wrong 11 = .ok (.invokestatic 61, 3) := by decide +kernel
theorem dX10_wrong_14 : decode cX10_wrong 14 = .ok (.ifCond .ne 5, 3) := by decide +kernel
theorem dX10_wrong_17 : decode cX10_wrong 17 = .ok (.iconst (-1), 1) := by decide +kernel
theorem dX10_wrong_18 : decode cX10_wrong 18 = .ok (.ireturn, 1) := by decide +kernel
theorem dX10_wrong_19 : decode cX10_wrong 19 = .ok (.aload_n 0, 1) := by decide +kernel
theorem dX10_wrong_20 : decode cX10_wrong 20 = .ok (.iload_n 1, 1) := by decide +kernel
theorem dX10_wrong_21 : decode cX10_wrong 21 = .ok (.invokevirtual 136, 3) := by decide +kernel
theorem dX10_wrong_24 : decode cX10_wrong 24 = .ok (.lstore_n 3, 1) := by decide +kernel
theorem dX10_wrong_25 : decode cX10_wrong 25 = .ok (.iconst 0, 1) := by decide +kernel
theorem dX10_wrong_26 : decode cX10_wrong 26 = .ok (.istore 5, 2) := by decide +kernel
theorem dX10_wrong_28 : decode cX10_wrong 28 = .ok (.iload 5, 2) := by decide +kernel
theorem dX10_wrong_30 : decode cX10_wrong 30 = .ok (.aload_n 0, 1) := by decide +kernel
theorem dX10_wrong_31 : decode cX10_wrong 31 = .ok (.getfield 35, 3) := by decide +kernel
theorem dX10_wrong_34 : decode cX10_wrong 34 = .ok (.iconst 1, 1) := by decide +kernel
theorem dX10_wrong_35 : decode cX10_wrong 35 = .ok (.iaload, 1) := by decide +kernel
theorem dX10_wrong_36 : decode cX10_wrong 36 = .ok (.if_icmp .ge 49, 3) := by decide +kernel
theorem dX10_wrong_39 : decode cX10_wrong 39 = .ok (.lload_n 3, 1) := by decide +kernel
theorem dX10_wrong_40 : decode cX10_wrong 40 = .ok (.aload_n 0, 1) := by decide +kernel
theorem dX10_wrong_41 : decode cX10_wrong 41 = .ok (.iconst 0, 1) := by decide +kernel
theorem dX10_wrong_42 : decode cX10_wrong 42 = .ok (.iload 5, 2) := by decide +kernel
theorem dX10_wrong_44 : decode cX10_wrong 44 = .ok (.aload_n 0, 1) := by decide +kernel
theorem dX10_wrong_45 : decode cX10_wrong 45 = .ok (.getfield 23, 3) := by decide +kernel
theorem dX10_wrong_48 : decode cX10_wrong 48 = .ok (.iload_n 1, 1) := by decide +kernel
theorem dX10_wrong_49 : decode cX10_wrong 49 = .ok (.iaload, 1) := by decide +kernel
theorem dX10_wrong_50 : decode cX10_wrong 50 = .ok (.invokevirtual 113, 3) := by decide +kernel
theorem dX10_wrong_53 : decode cX10_wrong 53 = .ok (.ifCond .eq 21, 3) := by decide +kernel
theorem dX10_wrong_56 : decode cX10_wrong 56 = .ok (.lconst 1, 1) := by decide +kernel
theorem dX10_wrong_57 : decode cX10_wrong 57 = .ok (.aload_n 0, 1) := by decide +kernel
theorem dX10_wrong_58 : decode cX10_wrong 58 = .ok (.getfield 35, 3) := by decide +kernel
theorem dX10_wrong_61 : decode cX10_wrong 61 = .ok (.iconst 2, 1) := by decide +kernel
theorem dX10_wrong_62 : decode cX10_wrong 62 = .ok (.iload 5, 2) := by decide +kernel
theorem dX10_wrong_64 : decode cX10_wrong 64 = .ok (.iadd, 1) := by decide +kernel
theorem dX10_wrong_65 : decode cX10_wrong 65 = .ok (.iaload, 1) := by decide +kernel
theorem dX10_wrong_66 : decode cX10_wrong 66 = .ok (.lshl, 1) := by decide +kernel
theorem dX10_wrong_67 : decode cX10_wrong 67 = .ok (.ldc2_w 163, 3) := by decide +kernel
theorem dX10_wrong_70 : decode cX10_wrong 70 = .ok (.lxor, 1) := by decide +kernel
theorem dX10_wrong_71 : decode cX10_wrong 71 = .ok (.goto 6, 3) := by decide +kernel
theorem dX10_wrong_74 : decode cX10_wrong 74 = .ok (.ldc2_w 163, 3) := by decide +kernel
theorem dX10_wrong_77 : decode cX10_wrong 77 = .ok (.land, 1) := by decide +kernel
theorem dX10_wrong_78 : decode cX10_wrong 78 = .ok (.lstore_n 3, 1) := by decide +kernel
theorem dX10_wrong_79 : decode cX10_wrong 79 = .ok (.iinc 5 1, 3) := by decide +kernel
theorem dX10_wrong_82 : decode cX10_wrong 82 = .ok (.goto (-54), 3) := by decide +kernel
theorem dX10_wrong_85 : decode cX10_wrong 85 = .ok (.iload_n 2, 1) := by decide +kernel
theorem dX10_wrong_86 : decode cX10_wrong 86 = .ok (.ifCond .ne 10, 3) := by decide +kernel
theorem dX10_wrong_89 : decode cX10_wrong 89 = .ok (.lload_n 3, 1) := by decide +kernel
theorem dX10_wrong_90 : decode cX10_wrong 90 = .ok (.invokestatic 140, 3) := by decide +kernel
theorem dX10_wrong_93 : decode cX10_wrong 93 = .ok (.goto 7, 3) := by decide +kernel
theorem dX10_wrong_96 : decode cX10_wrong 96 = .ok (.lload_n 3, 1) := by decide +kernel
theorem dX10_wrong_97 : decode cX10_wrong 97 = .ok (.invokestatic 178, 3) := by decide +kernel
theorem dX10_wrong_100 : decode cX10_wrong 100 = .ok (.ireturn, 1) := by decide +kernel
theorem dX10_nextMap_0 : decode cX10_nextMap 0 = .ok (.sipush 1000, 3) := by decide +kernel
theorem dX10_nextMap_3 : decode cX10_nextMap 3 = .ok (.istore_n 2, 1) := by decide +kernel
theorem dX10_nextMap_4 : decode cX10_nextMap 4 = .ok (.iconst 0, 1) := by decide +kernel
theorem dX10_nextMap_5 : decode cX10_nextMap 5 = .ok (.istore_n 3, 1) := by decide +kernel
theorem dX10_nextMap_6 : decode cX10_nextMap 6 = .ok (.iload_n 3, 1) := by decide +kernel
theorem dX10_nextMap_7 : decode cX10_nextMap 7 = .ok (.aload_n 0, 1) := by decide +kernel
theorem dX10_nextMap_8 : decode cX10_nextMap 8 = .ok (.getfield 20, 3) := by decide +kernel
theorem dX10_nextMap_11 : decode cX10_nextMap 11 = .ok (.iconst 0, 1) := by decide +kernel
theorem dX10_nextMap_12 : decode cX10_nextMap 12 = .ok (.iaload, 1) := by decide +kernel
theorem dX10_nextMap_13 : decode cX10_nextMap 13 = .ok (.if_icmp .ge 40, 3) := by decide +kernel
theorem dX10_nextMap_16 : decode cX10_nextMap 16 = .ok (.aload_n 0, 1) := by decide +kernel
theorem dX10_nextMap_17 : decode cX10_nextMap 17 = .ok (.getfield 23, 3) := by decide +kernel
theorem dX10_nextMap_20 : decode cX10_nextMap 20 = .ok (.iload_n 3, 1) := by decide +kernel
theorem dX10_nextMap_21 : decode cX10_nextMap 21 = .ok (.iaload, 1) := by decide +kernel
theorem dX10_nextMap_22 : decode cX10_nextMap 22 = .ok (.iload_n 1, 1) := by decide +kernel
theorem dX10_nextMap_23 : decode cX10_nextMap 23 = .ok (.if_icmp .le 22, 3) := by decide +kernel
theorem dX10_nextMap_26 : decode cX10_nextMap 26 = .ok (.aload_n 0, 1) := by decide +kernel
theorem dX10_nextMap_27 : decode cX10_nextMap 27 = .ok (.getfield 23, 3) := by decide +kernel
theorem dX10_nextMap_30 : decode cX10_nextMap 30 = .ok (.iload_n 3, 1) := by decide +kernel
theorem dX10_nextMap_31 : decode cX10_nextMap 31 = .ok (.iaload, 1) := by decide +kernel
theorem dX10_nextMap_32 : decode cX10_nextMap 32 = .ok (.iload_n 2, 1) := by decide +kernel
theorem dX10_nextMap_33 : decode cX10_nextMap 33 = .ok (.if_icmp .ge 12, 3) := by decide +kernel
theorem dX10_nextMap_36 : decode cX10_nextMap 36 = .ok (.aload_n 0, 1) := by decide +kernel
theorem dX10_nextMap_37 : decode cX10_nextMap 37 = .ok (.getfield 23, 3) := by decide +kernel
theorem dX10_nextMap_40 : decode cX10_nextMap 40 = .ok (.iload_n 3, 1) := by decide +kernel
theorem dX10_nextMap_41 : decode cX10_nextMap 41 = .ok (.iaload, 1) := by decide +kernel
theorem dX10_nextMap_42 : decode cX10_nextMap 42 = .ok (.goto 4, 3) := by decide +kernel
theorem dX10_nextMap_45 : decode cX10_nextMap 45 = .ok (.iload_n 2, 1) := by decide +kernel
theorem dX10_nextMap_46 : decode cX10_nextMap 46 = .ok (.istore_n 2, 1) := by decide +kernel
theorem dX10_nextMap_47 : decode cX10_nextMap 47 = .ok (.iinc 3 1, 3) := by decide +kernel
theorem dX10_nextMap_50 : decode cX10_nextMap 50 = .ok (.goto (-44), 3) := by decide +kernel
theorem dX10_nextMap_53 : decode cX10_nextMap 53 = .ok (.iload_n 2, 1) := by decide +kernel
theorem dX10_nextMap_54 : decode cX10_nextMap 54 = .ok (.ireturn, 1) := by decide +kernel
theorem dX10_older_0 : decode cX10_older 0 = .ok (.aload_n 0, 1) := by decide +kernel
theorem dX10_older_1 : decode cX10_older 1 = .ok (.getfield 20, 3) := by decide +kernel
theorem dX10_older_4 : decode cX10_older 4 = .ok (.iconst 0, 1) := by decide +kernel
theorem dX10_older_5 : decode cX10_older 5 = .ok (.iaload, 1) := by decide +kernel
theorem dX10_older_6 : decode cX10_older 6 = .ok (.ifCond .ne 6, 3) := by decide +kernel
theorem dX10_older_9 : decode cX10_older 9 = .ok (.bipush (-4), 2) := by decide +kernel
theorem dX10_older_11 : decode cX10_older 11 = .ok (.ireturn, 1) := by decide +kernel
theorem dX10_older_12 : decode cX10_older 12 = .ok (.iconst 1, 1) := by decide +kernel
theorem dX10_older_13 : decode cX10_older 13 = .ok (.istore_n 1, 1) := by decide +kernel
theorem dX10_older_14 : decode cX10_older 14 = .ok (.iconst (-1), 1) := by decide +kernel
theorem dX10_older_15 : decode cX10_older 15 = .ok (.istore_n 2, 1) := by decide +kernel
theorem dX10_older_16 : decode cX10_older 16 = .ok (.aload_n 0, 1) := by decide +kernel
theorem dX10_older_17 : decode cX10_older 17 = .ok (.iload_n 2, 1) := by decide +kernel
theorem dX10_older_18 : decode cX10_older 18 = .ok (.invokevirtual 181, 3) := by decide +kernel
theorem dX10_older_21 : decode cX10_older 21 = .ok (.sipush 1000, 3) := by decide +kernel
theorem dX10_older_24 : decode cX10_older 24 = .ok (.if_icmp .ge 109, 3) := by decide +kernel
theorem dX10_older_27 : decode cX10_older 27 = .ok (.aload_n 0, 1) := by decide +kernel
theorem dX10_older_28 : decode cX10_older 28 = .ok (.iload_n 2, 1) := by decide +kernel
theorem dX10_older_29 : decode cX10_older 29 = .ok (.invokevirtual 181, 3) := by decide +kernel
theorem dX10_older_32 : decode cX10_older 32 = .ok (.istore_n 3, 1) := by decide +kernel
theorem dX10_older_33 : decode cX10_older 33 = .ok (.iconst 0, 1) := by decide +kernel
theorem dX10_older_34 : decode cX10_older 34 = .ok (.istore 4, 2) := by decide +kernel
theorem dX10_older_36 : decode cX10_older 36 = .ok (.iconst 0, 1) := by decide +kernel
theorem dX10_older_37 : decode cX10_older 37 = .ok (.istore 5, 2) := by decide +kernel
theorem dX10_older_39 : decode cX10_older 39 = .ok (.iload 5, 2) := by decide +kernel
theorem dX10_older_41 : decode cX10_older 41 = .ok (.aload_n 0, 1) := by decide +kernel
theorem dX10_older_42 : decode cX10_older 42 = .ok (.getfield 35, 3) := by decide +kernel
theorem dX10_older_45 : decode cX10_older 45 = .ok (.iconst 1, 1) := by decide +kernel
theorem dX10_older_46 : decode cX10_older 46 = .ok (.iaload, 1) := by decide +kernel
theorem dX10_older_47 : decode cX10_older 47 = .ok (.if_icmp .ge 81, 3) := by decide +kernel
theorem dX10_older_50 : decode cX10_older 50 = .ok (.aload_n 0, 1) := by decide +kernel
theorem dX10_older_51 : decode cX10_older 51 = .ok (.getfield 35, 3) := by decide +kernel
theorem dX10_older_54 : decode cX10_older 54 = .ok (.bipush 32, 2) := by decide +kernel
theorem dX10_older_56 : decode cX10_older 56 = .ok (.iload 5, 2) := by decide +kernel
theorem dX10_older_58 : decode cX10_older 58 = .ok (.iadd, 1) := by decide +kernel
theorem dX10_older_59 : decode cX10_older 59 = .ok (.iaload, 1) := by decide +kernel
theorem dX10_older_60 : decode cX10_older 60 = .ok (.iconst 3, 1) := by decide +kernel
theorem dX10_older_61 : decode cX10_older 61 = .ok (.if_icmp .eq 29, 3) := by decide +kernel
theorem dX10_older_64 : decode cX10_older 64 = .ok (.aload_n 0, 1) := by decide +kernel
theorem dX10_older_65 : decode cX10_older 65 = .ok (.iconst 0, 1) := by decide +kernel
theorem dX10_older_66 : decode cX10_older 66 = .ok (.iload 5, 2) := by decide +kernel
theorem dX10_older_68 : decode cX10_older 68 = .ok (.iload_n 3, 1) := by decide +kernel
theorem dX10_older_69 : decode cX10_older 69 = .ok (.invokevirtual 113, 3) := by decide +kernel
theorem dX10_older_72 : decode cX10_older 72 = .ok (.ifCond .eq 18, 3) := by decide +kernel
theorem dX10_older_75 : decode cX10_older 75 = .ok (.aload_n 0, 1) := by decide +kernel
theorem dX10_older_76 : decode cX10_older 76 = .ok (.iconst 0, 1) := by decide +kernel
theorem dX10_older_77 : decode cX10_older 77 = .ok (.iload 5, 2) := by decide +kernel
theorem dX10_older_79 : decode cX10_older 79 = .ok (.iload_n 2, 1) := by decide +kernel
theorem dX10_older_80 : decode cX10_older 80 = .ok (.invokevirtual 113, 3) := by decide +kernel
theorem dX10_older_83 : decode cX10_older 83 = .ok (.ifCond .ne 7, 3) := by decide +kernel
theorem dX10_older_86 : decode cX10_older 86 = .ok (.iconst 1, 1) := by decide +kernel
theorem dX10_older_87 : decode cX10_older 87 = .ok (.goto 4, 3) := by decide +kernel
theorem dX10_older_90 : decode cX10_older 90 = .ok (.iconst 0, 1) := by decide +kernel
theorem dX10_older_91 : decode cX10_older 91 = .ok (.istore 6, 2) := by decide +kernel
theorem dX10_older_93 : decode cX10_older 93 = .ok (.iload 4, 2) := by decide +kernel
theorem dX10_older_95 : decode cX10_older 95 = .ok (.iload 6, 2) := by decide +kernel
theorem dX10_older_97 : decode cX10_older 97 = .ok (.ifCond .eq 7, 3) := by decide +kernel
theorem dX10_older_100 : decode cX10_older 100 = .ok (.iconst 1, 1) := by decide +kernel
theorem dX10_older_101 : decode cX10_older 101 = .ok (.goto 4, 3) := by decide +kernel
theorem dX10_older_104 : decode cX10_older 104 = .ok (.iconst 0, 1) := by decide +kernel
theorem dX10_older_105 : decode cX10_older 105 = .ok (.iadd, 1) := by decide +kernel
theorem dX10_older_106 : decode cX10_older 106 = .ok (.istore 4, 2) := by decide +kernel
theorem dX10_older_108 : decode cX10_older 108 = .ok (.iload_n 1, 1) := by decide +kernel
theorem dX10_older_109 : decode cX10_older 109 = .ok (.iload 6, 2) := by decide +kernel
theorem dX10_older_111 : decode cX10_older 111 = .ok (.ifCond .eq 8, 3) := by decide +kernel
theorem dX10_older_114 : decode cX10_older 114 = .ok (.iload 4, 2) := by decide +kernel
theorem dX10_older_116 : decode cX10_older 116 = .ok (.goto 4, 3) := by decide +kernel
theorem dX10_older_119 : decode cX10_older 119 = .ok (.iconst 1, 1) := by decide +kernel
theorem dX10_older_120 : decode cX10_older 120 = .ok (.imul, 1) := by decide +kernel
theorem dX10_older_121 : decode cX10_older 121 = .ok (.istore_n 1, 1) := by decide +kernel
theorem dX10_older_122 : decode cX10_older 122 = .ok (.iinc 5 1, 3) := by decide +kernel
theorem dX10_older_125 : decode cX10_older 125 = .ok (.goto (-86), 3) := by decide +kernel
theorem dX10_older_128 : decode cX10_older 128 = .ok (.iload_n 3, 1) := by decide +kernel
theorem dX10_older_129 : decode cX10_older 129 = .ok (.istore_n 2, 1) := by decide +kernel
theorem dX10_older_130 : decode cX10_older 130 = .ok (.goto (-114), 3) := by decide +kernel
theorem dX10_older_133 : decode cX10_older 133 = .ok (.iload_n 1, 1) := by decide +kernel
theorem dX10_older_134 : decode cX10_older 134 = .ok (.ireturn, 1) := by decide +kernel
theorem dX10_seen_0 : decode cX10_seen 0 = .ok (.aload_n 0, 1) := by decide +kernel
theorem dX10_seen_1 : decode cX10_seen 1 = .ok (.iload_n 1, 1) := by decide +kernel
theorem dX10_seen_2 : decode cX10_seen 2 = .ok (.invokevirtual 116, 3) := by decide +kernel
theorem dX10_seen_5 : decode cX10_seen 5 = .ok (.ifCond .ne 5, 3) := by decide +kernel
theorem dX10_seen_8 : decode cX10_seen 8 = .ok (.iconst (-1), 1) := by decide +kernel
theorem dX10_seen_9 : decode cX10_seen 9 = .ok (.ireturn, 1) := by decide +kernel
theorem dX10_seen_10 : decode cX10_seen 10 = .ok (.aload_n 0, 1) := by decide +kernel
theorem dX10_seen_11 : decode cX10_seen 11 = .ok (.getfield 103, 3) := by decide +kernel
theorem dX10_seen_14 : decode cX10_seen 14 = .ok (.bipush 12, 2) := by decide +kernel
theorem dX10_seen_16 : decode cX10_seen 16 = .ok (.if_icmp .ne 6, 3) := by decide +kernel
theorem dX10_seen_19 : decode cX10_seen 19 = .ok (.bipush (-3), 2) := by decide +kernel
theorem dX10_seen_21 : decode cX10_seen 21 = .ok (.ireturn, 1) := by decide +kernel
theorem dX10_seen_22 : decode cX10_seen 22 = .ok (.aload_n 0, 1) := by decide +kernel
theorem dX10_seen_23 : decode cX10_seen 23 = .ok (.getfield 44, 3) := by decide +kernel
theorem dX10_seen_26 : decode cX10_seen 26 = .ok (.aload_n 0, 1) := by decide +kernel
theorem dX10_seen_27 : decode cX10_seen 27 = .ok (.getfield 103, 3) := by decide +kernel
theorem dX10_seen_30 : decode cX10_seen 30 = .ok (.iload_n 1, 1) := by decide +kernel
theorem dX10_seen_31 : decode cX10_seen 31 = .ok (.iastore, 1) := by decide +kernel
theorem dX10_seen_32 : decode cX10_seen 32 = .ok (.aload_n 0, 1) := by decide +kernel
theorem dX10_seen_33 : decode cX10_seen 33 = .ok (.dup, 1) := by decide +kernel
theorem dX10_seen_34 : decode cX10_seen 34 = .ok (.getfield 103, 3) := by decide +kernel
theorem dX10_seen_37 : decode cX10_seen 37 = .ok (.iconst 1, 1) := by decide +kernel
theorem dX10_seen_38 : decode cX10_seen 38 = .ok (.iadd, 1) := by decide +kernel
theorem dX10_seen_39 : decode cX10_seen 39 = .ok (.putfield 103, 3) := by decide +kernel
theorem dX10_seen_42 : decode cX10_seen 42 = .ok (.aload_n 0, 1) := by decide +kernel
theorem dX10_seen_43 : decode cX10_seen 43 = .ok (.getfield 103, 3) := by decide +kernel
theorem dX10_seen_46 : decode cX10_seen 46 = .ok (.ireturn, 1) := by decide +kernel
theorem dX10_forget_0 : decode cX10_forget 0 = .ok (.aload_n 0, 1) := by decide +kernel
theorem dX10_forget_1 : decode cX10_forget 1 = .ok (.getfield 103, 3) := by decide +kernel
theorem dX10_forget_4 : decode cX10_forget 4 = .ok (.istore_n 1, 1) := by decide +kernel
theorem dX10_forget_5 : decode cX10_forget 5 = .ok (.aload_n 0, 1) := by decide +kernel
theorem dX10_forget_6 : decode cX10_forget 6 = .ok (.iconst 0, 1) := by decide +kernel
theorem dX10_forget_7 : decode cX10_forget 7 = .ok (.putfield 103, 3) := by decide +kernel
theorem dX10_forget_10 : decode cX10_forget 10 = .ok (.iload_n 1, 1) := by decide +kernel
theorem dX10_forget_11 : decode cX10_forget 11 = .ok (.ireturn, 1) := by decide +kernel
theorem dX10_found_0 : decode cX10_found 0 = .ok (.iload_n 1, 1) := by decide +kernel
theorem dX10_found_1 : decode cX10_found 1 = .ok (.iconst 0, 1) := by decide +kernel
theorem dX10_found_2 : decode cX10_found 2 = .ok (.iconst 1, 1) := by decide +kernel
theorem dX10_found_3 : decode cX10_found 3 = .ok (.invokestatic 61, 3) := by decide +kernel
theorem dX10_found_6 : decode cX10_found 6 = .ok (.ifCond .ne 5, 3) := by decide +kernel
theorem dX10_found_9 : decode cX10_found 9 = .ok (.iconst (-1), 1) := by decide +kernel
theorem dX10_found_10 : decode cX10_found 10 = .ok (.ireturn, 1) := by decide +kernel
theorem dX10_found_11 : decode cX10_found 11 = .ok (.lconst 0, 1) := by decide +kernel
theorem dX10_found_12 : decode cX10_found 12 = .ok (.lstore_n 2, 1) := by decide +kernel
theorem dX10_found_13 : decode cX10_found 13 = .ok (.iconst 0, 1) := by decide +kernel
theorem dX10_found_14 : decode cX10_found 14 = .ok (.istore 4, 2) := by decide +kernel
theorem dX10_found_16 : decode cX10_found 16 = .ok (.iload 4, 2) := by decide +kernel
theorem dX10_found_18 : decode cX10_found 18 = .ok (.aload_n 0, 1) := by decide +kernel
theorem dX10_found_19 : decode cX10_found 19 = .ok (.getfield 103, 3) := by decide +kernel
theorem dX10_found_22 : decode cX10_found 22 = .ok (.if_icmp .ge 21, 3) := by decide +kernel
theorem dX10_found_25 : decode cX10_found 25 = .ok (.lload_n 2, 1) := by decide +kernel
theorem dX10_found_26 : decode cX10_found 26 = .ok (.lconst 1, 1) := by decide +kernel
theorem dX10_found_27 : decode cX10_found 27 = .ok (.aload_n 0, 1) := by decide +kernel
theorem dX10_found_28 : decode cX10_found 28 = .ok (.getfield 44, 3) := by decide +kernel
theorem dX10_found_31 : decode cX10_found 31 = .ok (.iload 4, 2) := by decide +kernel
theorem dX10_found_33 : decode cX10_found 33 = .ok (.iaload, 1) := by decide +kernel
theorem dX10_found_34 : decode cX10_found 34 = .ok (.lshl, 1) := by decide +kernel
theorem dX10_found_35 : decode cX10_found 35 = .ok (.lor, 1) := by decide +kernel
theorem dX10_found_36 : decode cX10_found 36 = .ok (.lstore_n 2, 1) := by decide +kernel
theorem dX10_found_37 : decode cX10_found 37 = .ok (.iinc 4 1, 3) := by decide +kernel
theorem dX10_found_40 : decode cX10_found 40 = .ok (.goto (-24), 3) := by decide +kernel
theorem dX10_found_43 : decode cX10_found 43 = .ok (.iconst 0, 1) := by decide +kernel
theorem dX10_found_44 : decode cX10_found 44 = .ok (.istore 4, 2) := by decide +kernel
theorem dX10_found_46 : decode cX10_found 46 = .ok (.bipush (-4), 2) := by decide +kernel
theorem dX10_found_48 : decode cX10_found 48 = .ok (.istore 5, 2) := by decide +kernel
theorem dX10_found_50 : decode cX10_found 50 = .ok (.iconst 0, 1) := by decide +kernel
theorem dX10_found_51 : decode cX10_found 51 = .ok (.istore 6, 2) := by decide +kernel
theorem dX10_found_53 : decode cX10_found 53 = .ok (.iload 6, 2) := by decide +kernel
theorem dX10_found_55 : decode cX10_found 55 = .ok (.bipush 25, 2) := by decide +kernel
theorem dX10_found_57 : decode cX10_found 57 = .ok (.aload_n 0, 1) := by decide +kernel
theorem dX10_found_58 : decode cX10_found 58 = .ok (.getfield 35, 3) := by decide +kernel
theorem dX10_found_61 : decode cX10_found 61 = .ok (.iconst 0, 1) := by decide +kernel
theorem dX10_found_62 : decode cX10_found 62 = .ok (.iaload, 1) := by decide +kernel
theorem dX10_found_63 : decode cX10_found 63 = .ok (.imul, 1) := by decide +kernel
theorem dX10_found_64 : decode cX10_found 64 = .ok (.bipush 25, 2) := by decide +kernel
theorem dX10_found_66 : decode cX10_found 66 = .ok (.iadd, 1) := by decide +kernel
theorem dX10_found_67 : decode cX10_found 67 = .ok (.if_icmp .ge 55, 3) := by decide +kernel
theorem dX10_found_70 : decode cX10_found 70 = .ok (.aload_n 0, 1) := by decide +kernel
theorem dX10_found_71 : decode cX10_found 71 = .ok (.aload_n 0, 1) := by decide +kernel
theorem dX10_found_72 : decode cX10_found 72 = .ok (.iconst 0, 1) := by decide +kernel
theorem dX10_found_73 : decode cX10_found 73 = .ok (.iload 6, 2) := by decide +kernel
theorem dX10_found_75 : decode cX10_found 75 = .ok (.bipush 25, 2) := by decide +kernel
theorem dX10_found_77 : decode cX10_found 77 = .ok (.idiv, 1) := by decide +kernel
theorem dX10_found_78 : decode cX10_found 78 = .ok (.invokevirtual 126, 3) := by decide +kernel
theorem dX10_found_81 : decode cX10_found 81 = .ok (.iload 6, 2) := by decide +kernel
theorem dX10_found_83 : decode cX10_found 83 = .ok (.iconst 5, 1) := by decide +kernel
theorem dX10_found_84 : decode cX10_found 84 = .ok (.idiv, 1) := by decide +kernel
theorem dX10_found_85 : decode cX10_found 85 = .ok (.iconst 5, 1) := by decide +kernel
theorem dX10_found_86 : decode cX10_found 86 = .ok (.irem, 1) := by decide +kernel
theorem dX10_found_87 : decode cX10_found 87 = .ok (.iload 6, 2) := by decide +kernel
theorem dX10_found_89 : decode cX10_found 89 = .ok (.iconst 5, 1) := by decide +kernel
theorem dX10_found_90 : decode cX10_found 90 = .ok (.irem, 1) := by decide +kernel
theorem dX10_found_91 : decode cX10_found 91 = .ok (.invokevirtual 129, 3) := by decide +kernel
theorem dX10_found_94 : decode cX10_found 94 = .ok (.lload_n 2, 1) := by decide +kernel
theorem dX10_found_95 : decode cX10_found 95 = .ok (.lcmp, 1) := by decide +kernel
theorem dX10_found_96 : decode cX10_found 96 = .ok (.ifCond .ne 20, 3) := by decide +kernel
theorem dX10_found_99 : decode cX10_found 99 = .ok (.iload 4, 2) := by decide +kernel
theorem dX10_found_101 : decode cX10_found 101 = .ok (.ifCond .ne 8, 3) := by decide +kernel
theorem dX10_found_104 : decode cX10_found 104 = .ok (.iload 6, 2) := by decide +kernel
theorem dX10_found_106 : decode cX10_found 106 = .ok (.goto 5, 3) := by decide +kernel
theorem dX10_found_109 : decode cX10_found 109 = .ok (.iload 5, 2) := by decide +kernel
theorem dX10_found_111 : decode cX10_found 111 = .ok (.istore 5, 2) := by decide +kernel
theorem dX10_found_113 : decode cX10_found 113 = .ok (.iinc 4 1, 3) := by decide +kernel
theorem dX10_found_116 : decode cX10_found 116 = .ok (.iinc 6 1, 3) := by decide +kernel
theorem dX10_found_119 : decode cX10_found 119 = .ok (.goto (-66), 3) := by decide +kernel
theorem dX10_found_122 : decode cX10_found 122 = .ok (.iload_n 1, 1) := by decide +kernel
theorem dX10_found_123 : decode cX10_found 123 = .ok (.ifCond .ne 8, 3) := by decide +kernel
theorem dX10_found_126 : decode cX10_found 126 = .ok (.iload 4, 2) := by decide +kernel
theorem dX10_found_128 : decode cX10_found 128 = .ok (.goto 5, 3) := by decide +kernel
theorem dX10_found_131 : decode cX10_found 131 = .ok (.iload 5, 2) := by decide +kernel
theorem dX10_found_133 : decode cX10_found 133 = .ok (.ireturn, 1) := by decide +kernel
theorem dX10_apart_0 : decode cX10_apart 0 = .ok (.iload_n 1, 1) := by decide +kernel
theorem dX10_apart_1 : decode cX10_apart 1 = .ok (.aload_n 0, 1) := by decide +kernel
theorem dX10_apart_2 : decode cX10_apart 2 = .ok (.getfield 17, 3) := by decide +kernel
theorem dX10_apart_5 : decode cX10_apart 5 = .ok (.iconst 0, 1) := by decide +kernel
theorem dX10_apart_6 : decode cX10_apart 6 = .ok (.iaload, 1) := by decide +kernel
theorem dX10_apart_7 : decode cX10_apart 7 = .ok (.idiv, 1) := by decide +kernel
theorem dX10_apart_8 : decode cX10_apart 8 = .ok (.iload_n 2, 1) := by decide +kernel
theorem dX10_apart_9 : decode cX10_apart 9 = .ok (.aload_n 0, 1) := by decide +kernel
theorem dX10_apart_10 : decode cX10_apart 10 = .ok (.getfield 17, 3) := by decide +kernel
theorem dX10_apart_13 : decode cX10_apart 13 = .ok (.iconst 0, 1) := by decide +kernel
theorem dX10_apart_14 : decode cX10_apart 14 = .ok (.iaload, 1) := by decide +kernel
theorem dX10_apart_15 : decode cX10_apart 15 = .ok (.idiv, 1) := by decide +kernel
theorem dX10_apart_16 : decode cX10_apart 16 = .ok (.isub, 1) := by decide +kernel
theorem dX10_apart_17 : decode cX10_apart 17 = .ok (.istore_n 3, 1) := by decide +kernel
theorem dX10_apart_18 : decode cX10_apart 18 = .ok (.iload_n 1, 1) := by decide +kernel
theorem dX10_apart_19 : decode cX10_apart 19 = .ok (.aload_n 0, 1) := by decide +kernel
theorem dX10_apart_20 : decode cX10_apart 20 = .ok (.getfield 17, 3) := by decide +kernel
theorem dX10_apart_23 : decode cX10_apart 23 = .ok (.iconst 0, 1) := by decide +kernel
theorem dX10_apart_24 : decode cX10_apart 24 = .ok (.iaload, 1) := by decide +kernel
theorem dX10_apart_25 : decode cX10_apart 25 = .ok (.irem, 1) := by decide +kernel
theorem dX10_apart_26 : decode cX10_apart 26 = .ok (.iload_n 2, 1) := by decide +kernel
theorem dX10_apart_27 : decode cX10_apart 27 = .ok (.aload_n 0, 1) := by decide +kernel
theorem dX10_apart_28 : decode cX10_apart 28 = .ok (.getfield 17, 3) := by decide +kernel
theorem dX10_apart_31 : decode cX10_apart 31 = .ok (.iconst 0, 1) := by decide +kernel
theorem dX10_apart_32 : decode cX10_apart 32 = .ok (.iaload, 1) := by decide +kernel
theorem dX10_apart_33 : decode cX10_apart 33 = .ok (.irem, 1) := by decide +kernel
theorem dX10_apart_34 : decode cX10_apart 34 = .ok (.isub, 1) := by decide +kernel
theorem dX10_apart_35 : decode cX10_apart 35 = .ok (.istore 4, 2) := by decide +kernel
theorem dX10_apart_37 : decode cX10_apart 37 = .ok (.iload_n 3, 1) := by decide +kernel
theorem dX10_apart_38 : decode cX10_apart 38 = .ok (.ifCond .ge 8, 3) := by decide +kernel
theorem dX10_apart_41 : decode cX10_apart 41 = .ok (.iload_n 3, 1) := by decide +kernel
theorem dX10_apart_42 : decode cX10_apart 42 = .ok (.ineg, 1) := by decide +kernel
theorem dX10_apart_43 : decode cX10_apart 43 = .ok (.goto 4, 3) := by decide +kernel
theorem dX10_apart_46 : decode cX10_apart 46 = .ok (.iload_n 3, 1) := by decide +kernel
theorem dX10_apart_47 : decode cX10_apart 47 = .ok (.iload 4, 2) := by decide +kernel
theorem dX10_apart_49 : decode cX10_apart 49 = .ok (.ifCond .ge 9, 3) := by decide +kernel
theorem dX10_apart_52 : decode cX10_apart 52 = .ok (.iload 4, 2) := by decide +kernel
theorem dX10_apart_54 : decode cX10_apart 54 = .ok (.ineg, 1) := by decide +kernel
theorem dX10_apart_55 : decode cX10_apart 55 = .ok (.goto 5, 3) := by decide +kernel
theorem dX10_apart_58 : decode cX10_apart 58 = .ok (.iload 4, 2) := by decide +kernel
theorem dX10_apart_60 : decode cX10_apart 60 = .ok (.iadd, 1) := by decide +kernel
theorem dX10_apart_61 : decode cX10_apart 61 = .ok (.ireturn, 1) := by decide +kernel
theorem dX10_round_0 : decode cX10_round 0 = .ok (.aload_n 0, 1) := by decide +kernel
theorem dX10_round_1 : decode cX10_round 1 = .ok (.iload_n 1, 1) := by decide +kernel
theorem dX10_round_2 : decode cX10_round 2 = .ok (.invokevirtual 116, 3) := by decide +kernel
theorem dX10_round_5 : decode cX10_round 5 = .ok (.ifCond .ne 5, 3) := by decide +kernel
theorem dX10_round_8 : decode cX10_round 8 = .ok (.iconst (-1), 1) := by decide +kernel
theorem dX10_round_9 : decode cX10_round 9 = .ok (.ireturn, 1) := by decide +kernel
theorem dX10_round_10 : decode cX10_round 10 = .ok (.iconst 0, 1) := by decide +kernel
theorem dX10_round_11 : decode cX10_round 11 = .ok (.istore_n 2, 1) := by decide +kernel
theorem dX10_round_12 : decode cX10_round 12 = .ok (.iconst 0, 1) := by decide +kernel
theorem dX10_round_13 : decode cX10_round 13 = .ok (.istore_n 3, 1) := by decide +kernel
theorem dX10_round_14 : decode cX10_round 14 = .ok (.iload_n 3, 1) := by decide +kernel
theorem dX10_round_15 : decode cX10_round 15 = .ok (.aload_n 0, 1) := by decide +kernel
theorem dX10_round_16 : decode cX10_round 16 = .ok (.getfield 35, 3) := by decide +kernel
theorem dX10_round_19 : decode cX10_round 19 = .ok (.iconst 1, 1) := by decide +kernel
theorem dX10_round_20 : decode cX10_round 20 = .ok (.iaload, 1) := by decide +kernel
theorem dX10_round_21 : decode cX10_round 21 = .ok (.if_icmp .ge 53, 3) := by decide +kernel
theorem dX10_round_24 : decode cX10_round 24 = .ok (.aload_n 0, 1) := by decide +kernel
theorem dX10_round_25 : decode cX10_round 25 = .ok (.getfield 35, 3) := by decide +kernel
theorem dX10_round_28 : decode cX10_round 28 = .ok (.bipush 22, 2) := by decide +kernel
theorem dX10_round_30 : decode cX10_round 30 = .ok (.iload_n 3, 1) := by decide +kernel
theorem dX10_round_31 : decode cX10_round 31 = .ok (.iadd, 1) := by decide +kernel
theorem dX10_round_32 : decode cX10_round 32 = .ok (.iaload, 1) := by decide +kernel
theorem dX10_round_33 : decode cX10_round 33 = .ok (.aload_n 0, 1) := by decide +kernel
theorem dX10_round_34 : decode cX10_round 34 = .ok (.getfield 35, 3) := by decide +kernel
theorem dX10_round_37 : decode cX10_round 37 = .ok (.iconst 0, 1) := by decide +kernel
theorem dX10_round_38 : decode cX10_round 38 = .ok (.iaload, 1) := by decide +kernel
theorem dX10_round_39 : decode cX10_round 39 = .ok (.if_icmp .ne 29, 3) := by decide +kernel
theorem dX10_round_42 : decode cX10_round 42 = .ok (.iload_n 2, 1) := by decide +kernel
theorem dX10_round_43 : decode cX10_round 43 = .ok (.bipush 8, 2) := by decide +kernel
theorem dX10_round_45 : decode cX10_round 45 = .ok (.if_icmp .ne 6, 3) := by decide +kernel
theorem dX10_round_48 : decode cX10_round 48 = .ok (.bipush (-4), 2) := by decide +kernel
theorem dX10_round_50 : decode cX10_round 50 = .ok (.ireturn, 1) := by decide +kernel
theorem dX10_round_51 : decode cX10_round 51 = .ok (.aload_n 0, 1) := by decide +kernel
theorem dX10_round_52 : decode cX10_round 52 = .ok (.getfield 47, 3) := by decide +kernel
theorem dX10_round_55 : decode cX10_round 55 = .ok (.iload_n 2, 1) := by decide +kernel
theorem dX10_round_56 : decode cX10_round 56 = .ok (.aload_n 0, 1) := by decide +kernel
theorem dX10_round_57 : decode cX10_round 57 = .ok (.getfield 35, 3) := by decide +kernel
theorem dX10_round_60 : decode cX10_round 60 = .ok (.iconst 2, 1) := by decide +kernel
theorem dX10_round_61 : decode cX10_round 61 = .ok (.iload_n 3, 1) := by decide +kernel
theorem dX10_round_62 : decode cX10_round 62 = .ok (.iadd, 1) := by decide +kernel
theorem dX10_round_63 : decode cX10_round 63 = .ok (.iaload, 1) := by decide +kernel
theorem dX10_round_64 : decode cX10_round 64 = .ok (.iastore, 1) := by decide +kernel
theorem dX10_round_65 : decode cX10_round 65 = .ok (.iinc 2 1, 3) := by decide +kernel
theorem dX10_round_68 : decode cX10_round 68 = .ok (.iinc 3 1, 3) := by decide +kernel
theorem dX10_round_71 : decode cX10_round 71 = .ok (.goto (-57), 3) := by decide +kernel
theorem dX10_round_74 : decode cX10_round 74 = .ok (.iload_n 2, 1) := by decide +kernel
theorem dX10_round_75 : decode cX10_round 75 = .ok (.ifCond .ne 6, 3) := by decide +kernel
theorem dX10_round_78 : decode cX10_round 78 = .ok (.bipush (-4), 2) := by decide +kernel
theorem dX10_round_80 : decode cX10_round 80 = .ok (.ireturn, 1) := by decide +kernel
theorem dX10_round_81 : decode cX10_round 81 = .ok (.iconst 1, 1) := by decide +kernel
theorem dX10_round_82 : decode cX10_round 82 = .ok (.istore_n 3, 1) := by decide +kernel
theorem dX10_round_83 : decode cX10_round 83 = .ok (.iload_n 3, 1) := by decide +kernel
theorem dX10_round_84 : decode cX10_round 84 = .ok (.iconst 1, 1) := by decide +kernel
theorem dX10_round_85 : decode cX10_round 85 = .ok (.iload_n 2, 1) := by decide +kernel
theorem dX10_round_86 : decode cX10_round 86 = .ok (.ishl, 1) := by decide +kernel
theorem dX10_round_87 : decode cX10_round 87 = .ok (.if_icmp .ge 168, 3) := by decide +kernel
theorem dX10_round_90 : decode cX10_round 90 = .ok (.iconst 0, 1) := by decide +kernel
theorem dX10_round_91 : decode cX10_round 91 = .ok (.istore 4, 2) := by decide +kernel
theorem dX10_round_93 : decode cX10_round 93 = .ok (.iload 4, 2) := by decide +kernel
theorem dX10_round_95 : decode cX10_round 95 = .ok (.iload_n 2, 1) := by decide +kernel
theorem dX10_round_96 : decode cX10_round 96 = .ok (.if_icmp .ge 153, 3) := by decide +kernel
theorem dX10_round_99 : decode cX10_round 99 = .ok (.iload_n 3, 1) := by decide +kernel
theorem dX10_round_100 : decode cX10_round 100 = .ok (.iconst 1, 1) := by decide +kernel
theorem dX10_round_101 : decode cX10_round 101 = .ok (.iload 4, 2) := by decide +kernel
theorem dX10_round_103 : decode cX10_round 103 = .ok (.ishl, 1) := by decide +kernel
theorem dX10_round_104 : decode cX10_round 104 = .ok (.iconst (-1), 1) := by decide +kernel
theorem dX10_round_105 : decode cX10_round 105 = .ok (.ixor, 1) := by decide +kernel
theorem dX10_round_106 : decode cX10_round 106 = .ok (.iand, 1) := by decide +kernel
theorem dX10_round_107 : decode cX10_round 107 = .ok (.istore 5, 2) := by decide +kernel
theorem dX10_round_109 : decode cX10_round 109 = .ok (.iload 5, 2) := by decide +kernel
theorem dX10_round_111 : decode cX10_round 111 = .ok (.ifCond .ne 18, 3) := by decide +kernel
theorem dX10_round_114 : decode cX10_round 114 = .ok (.aload_n 0, 1) := by decide +kernel
theorem dX10_round_115 : decode cX10_round 115 = .ok (.iload_n 1, 1) := by decide +kernel
theorem dX10_round_116 : decode cX10_round 116 = .ok (.aload_n 0, 1) := by decide +kernel
theorem dX10_round_117 : decode cX10_round 117 = .ok (.getfield 47, 3) := by decide +kernel
theorem dX10_round_120 : decode cX10_round 120 = .ok (.iload 4, 2) := by decide +kernel
theorem dX10_round_122 : decode cX10_round 122 = .ok (.iaload, 1) := by decide +kernel
theorem dX10_round_123 : decode cX10_round 123 = .ok (.invokevirtual 184, 3) := by decide +kernel
theorem dX10_round_126 : decode cX10_round 126 = .ok (.goto 5, 3) := by decide +kernel
theorem dX10_round_129 : decode cX10_round 129 = .ok (.ldc 57, 2) := by decide +kernel
theorem dX10_round_131 : decode cX10_round 131 = .ok (.istore 6, 2) := by decide +kernel
theorem dX10_round_133 : decode cX10_round 133 = .ok (.iconst 0, 1) := by decide +kernel
theorem dX10_round_134 : decode cX10_round 134 = .ok (.istore 7, 2) := by decide +kernel
theorem dX10_round_136 : decode cX10_round 136 = .ok (.iload 7, 2) := by decide +kernel
theorem dX10_round_138 : decode cX10_round 138 = .ok (.iload_n 2, 1) := by decide +kernel
theorem dX10_round_139 : decode cX10_round 139 = .ok (.if_icmp .ge 75, 3) := by decide +kernel
theorem dX10_round_142 : decode cX10_round 142 = .ok (.iload 5, 2) := by decide +kernel
theorem dX10_round_144 : decode cX10_round 144 = .ok (.iload 7, 2) := by decide +kernel
theorem dX10_round_146 : decode cX10_round 146 = .ok (.ishr, 1) := by decide +kernel
theorem dX10_round_147 : decode cX10_round 147 = .ok (.iconst 1, 1) := by decide +kernel
theorem dX10_round_148 : decode cX10_round 148 = .ok (.iand, 1) := by decide +kernel
theorem dX10_round_149 : decode cX10_round 149 = .ok (.iconst 1, 1) := by decide +kernel
theorem dX10_round_150 : decode cX10_round 150 = .ok (.if_icmp .ne 38, 3) := by decide +kernel
theorem dX10_round_153 : decode cX10_round 153 = .ok (.aload_n 0, 1) := by decide +kernel
theorem dX10_round_154 : decode cX10_round 154 = .ok (.getfield 50, 3) := by decide +kernel
theorem dX10_round_157 : decode cX10_round 157 = .ok (.bipush 8, 2) := by decide +kernel
theorem dX10_round_159 : decode cX10_round 159 = .ok (.iload 5, 2) := by decide +kernel
theorem dX10_round_161 : decode cX10_round 161 = .ok (.imul, 1) := by decide +kernel
theorem dX10_round_162 : decode cX10_round 162 = .ok (.iload 7, 2) := by decide +kernel
theorem dX10_round_164 : decode cX10_round 164 = .ok (.iadd, 1) := by decide +kernel
theorem dX10_round_165 : decode cX10_round 165 = .ok (.iaload, 1) := by decide +kernel
theorem dX10_round_166 : decode cX10_round 166 = .ok (.aload_n 0, 1) := by decide +kernel
theorem dX10_round_167 : decode cX10_round 167 = .ok (.aload_n 0, 1) := by decide +kernel
theorem dX10_round_168 : decode cX10_round 168 = .ok (.getfield 47, 3) := by decide +kernel
theorem dX10_round_171 : decode cX10_round 171 = .ok (.iload 7, 2) := by decide +kernel
theorem dX10_round_173 : decode cX10_round 173 = .ok (.iaload, 1) := by decide +kernel
theorem dX10_round_174 : decode cX10_round 174 = .ok (.aload_n 0, 1) := by decide +kernel
theorem dX10_round_175 : decode cX10_round 175 = .ok (.getfield 47, 3) := by decide +kernel
theorem dX10_round_178 : decode cX10_round 178 = .ok (.iload 4, 2) := by decide +kernel
theorem dX10_round_180 : decode cX10_round 180 = .ok (.iaload, 1) := by decide +kernel
theorem dX10_round_181 : decode cX10_round 181 = .ok (.invokevirtual 184, 3) := by decide +kernel
theorem dX10_round_184 : decode cX10_round 184 = .ok (.iadd, 1) := by decide +kernel
theorem dX10_round_185 : decode cX10_round 185 = .ok (.goto 5, 3) := by decide +kernel
theorem dX10_round_188 : decode cX10_round 188 = .ok (.ldc 57, 2) := by decide +kernel
theorem dX10_round_190 : decode cX10_round 190 = .ok (.istore 8, 2) := by decide +kernel
theorem dX10_round_192 : decode cX10_round 192 = .ok (.iload 8, 2) := by decide +kernel
theorem dX10_round_194 : decode cX10_round 194 = .ok (.iload 6, 2) := by decide +kernel
theorem dX10_round_196 : decode cX10_round 196 = .ok (.if_icmp .ge 8, 3) := by decide +kernel
theorem dX10_round_199 : decode cX10_round 199 = .ok (.iload 8, 2) := by decide +kernel
theorem dX10_round_201 : decode cX10_round 201 = .ok (.goto 5, 3) := by decide +kernel
theorem dX10_round_204 : decode cX10_round 204 = .ok (.iload 6, 2) := by decide +kernel
theorem dX10_round_206 : decode cX10_round 206 = .ok (.istore 6, 2) := by decide +kernel
theorem dX10_round_208 : decode cX10_round 208 = .ok (.iinc 7 1, 3) := by decide +kernel
theorem dX10_round_211 : decode cX10_round 211 = .ok (.goto (-75), 3) := by decide +kernel
theorem dX10_round_214 : decode cX10_round 214 = .ok (.aload_n 0, 1) := by decide +kernel
theorem dX10_round_215 : decode cX10_round 215 = .ok (.getfield 50, 3) := by decide +kernel
theorem dX10_round_218 : decode cX10_round 218 = .ok (.bipush 8, 2) := by decide +kernel
theorem dX10_round_220 : decode cX10_round 220 = .ok (.iload_n 3, 1) := by decide +kernel
theorem dX10_round_221 : decode cX10_round 221 = .ok (.imul, 1) := by decide +kernel
theorem dX10_round_222 : decode cX10_round 222 = .ok (.iload 4, 2) := by decide +kernel
theorem dX10_round_224 : decode cX10_round 224 = .ok (.iadd, 1) := by decide +kernel
theorem dX10_round_225 : decode cX10_round 225 = .ok (.iload_n 3, 1) := by decide +kernel
theorem dX10_round_226 : decode cX10_round 226 = .ok (.iload 4, 2) := by decide +kernel
theorem dX10_round_228 : decode cX10_round 228 = .ok (.ishr, 1) := by decide +kernel
theorem dX10_round_229 : decode cX10_round 229 = .ok (.iconst 1, 1) := by decide +kernel
theorem dX10_round_230 : decode cX10_round 230 = .ok (.iand, 1) := by decide +kernel
theorem dX10_round_231 : decode cX10_round 231 = .ok (.iconst 1, 1) := by decide +kernel
theorem dX10_round_232 : decode cX10_round 232 = .ok (.if_icmp .ne 8, 3) := by decide +kernel
theorem dX10_round_235 : decode cX10_round 235 = .ok (.iload 6, 2) := by decide +kernel
theorem dX10_round_237 : decode cX10_round 237 = .ok (.goto 5, 3) := by decide +kernel
theorem dX10_round_240 : decode cX10_round 240 = .ok (.ldc 57, 2) := by decide +kernel
theorem dX10_round_242 : decode cX10_round 242 = .ok (.iastore, 1) := by decide +kernel
theorem dX10_round_243 : decode cX10_round 243 = .ok (.iinc 4 1, 3) := by decide +kernel
theorem dX10_round_246 : decode cX10_round 246 = .ok (.goto (-153), 3) := by decide +kernel
theorem dX10_round_249 : decode cX10_round 249 = .ok (.iinc 3 1, 3) := by decide +kernel
theorem dX10_round_252 : decode cX10_round 252 = .ok (.goto (-169), 3) := by decide +kernel
theorem dX10_round_255 : decode cX10_round 255 = .ok (.ldc 57, 2) := by decide +kernel
theorem dX10_round_257 : decode cX10_round 257 = .ok (.istore_n 3, 1) := by decide +kernel
theorem dX10_round_258 : decode cX10_round 258 = .ok (.iconst 0, 1) := by decide +kernel
theorem dX10_round_259 : decode cX10_round 259 = .ok (.istore 4, 2) := by decide +kernel
theorem dX10_round_261 : decode cX10_round 261 = .ok (.iload 4, 2) := by decide +kernel
theorem dX10_round_263 : decode cX10_round 263 = .ok (.iload_n 2, 1) := by decide +kernel
theorem dX10_round_264 : decode cX10_round 264 = .ok (.if_icmp .ge 53, 3) := by decide +kernel
theorem dX10_round_267 : decode cX10_round 267 = .ok (.aload_n 0, 1) := by decide +kernel
theorem dX10_round_268 : decode cX10_round 268 = .ok (.getfield 50, 3) := by decide +kernel
theorem dX10_round_271 : decode cX10_round 271 = .ok (.bipush 8, 2) := by decide +kernel
theorem dX10_round_273 : decode cX10_round 273 = .ok (.iconst 1, 1) := by decide +kernel
theorem dX10_round_274 : decode cX10_round 274 = .ok (.iload_n 2, 1) := by decide +kernel
theorem dX10_round_275 : decode cX10_round 275 = .ok (.ishl, 1) := by decide +kernel
theorem dX10_round_276 : decode cX10_round 276 = .ok (.iconst 1, 1) := by decide +kernel
theorem dX10_round_277 : decode cX10_round 277 = .ok (.isub, 1) := by decide +kernel
theorem dX10_round_278 : decode cX10_round 278 = .ok (.imul, 1) := by decide +kernel
theorem dX10_round_279 : decode cX10_round 279 = .ok (.iload 4, 2) := by decide +kernel
theorem dX10_round_281 : decode cX10_round 281 = .ok (.iadd, 1) := by decide +kernel
theorem dX10_round_282 : decode cX10_round 282 = .ok (.iaload, 1) := by decide +kernel
theorem dX10_round_283 : decode cX10_round 283 = .ok (.aload_n 0, 1) := by decide +kernel
theorem dX10_round_284 : decode cX10_round 284 = .ok (.aload_n 0, 1) := by decide +kernel
theorem dX10_round_285 : decode cX10_round 285 = .ok (.getfield 47, 3) := by decide +kernel
theorem dX10_round_288 : decode cX10_round 288 = .ok (.iload 4, 2) := by decide +kernel
theorem dX10_round_290 : decode cX10_round 290 = .ok (.iaload, 1) := by decide +kernel
theorem dX10_round_291 : decode cX10_round 291 = .ok (.iload_n 1, 1) := by decide +kernel
theorem dX10_round_292 : decode cX10_round 292 = .ok (.invokevirtual 184, 3) := by decide +kernel
theorem dX10_round_295 : decode cX10_round 295 = .ok (.iadd, 1) := by decide +kernel
theorem dX10_round_296 : decode cX10_round 296 = .ok (.istore 5, 2) := by decide +kernel
theorem dX10_round_298 : decode cX10_round 298 = .ok (.iload 5, 2) := by decide +kernel
theorem dX10_round_300 : decode cX10_round 300 = .ok (.iload_n 3, 1) := by decide +kernel
theorem dX10_round_301 : decode cX10_round 301 = .ok (.if_icmp .ge 8, 3) := by decide +kernel
theorem dX10_round_304 : decode cX10_round 304 = .ok (.iload 5, 2) := by decide +kernel
theorem dX10_round_306 : decode cX10_round 306 = .ok (.goto 4, 3) := by decide +kernel
theorem dX10_round_309 : decode cX10_round 309 = .ok (.iload_n 3, 1) := by decide +kernel
theorem dX10_round_310 : decode cX10_round 310 = .ok (.istore_n 3, 1) := by decide +kernel
theorem dX10_round_311 : decode cX10_round 311 = .ok (.iinc 4 1, 3) := by decide +kernel
theorem dX10_round_314 : decode cX10_round 314 = .ok (.goto (-53), 3) := by decide +kernel
theorem dX10_round_317 : decode cX10_round 317 = .ok (.iload_n 3, 1) := by decide +kernel
theorem dX10_round_318 : decode cX10_round 318 = .ok (.ireturn, 1) := by decide +kernel
theorem dX10_fire_0 : decode cX10_fire 0 = .ok (.aload_n 0, 1) := by decide +kernel
theorem dX10_fire_1 : decode cX10_fire 1 = .ok (.iload_n 1, 1) := by decide +kernel
theorem dX10_fire_2 : decode cX10_fire 2 = .ok (.invokevirtual 116, 3) := by decide +kernel
theorem dX10_fire_5 : decode cX10_fire 5 = .ok (.ifCond .eq 20, 3) := by decide +kernel
theorem dX10_fire_8 : decode cX10_fire 8 = .ok (.aload_n 0, 1) := by decide +kernel
theorem dX10_fire_9 : decode cX10_fire 9 = .ok (.iload_n 2, 1) := by decide +kernel
theorem dX10_fire_10 : decode cX10_fire 10 = .ok (.invokevirtual 116, 3) := by decide +kernel
theorem dX10_fire_13 : decode cX10_fire 13 = .ok (.ifCond .eq 12, 3) := by decide +kernel
theorem dX10_fire_16 : decode cX10_fire 16 = .ok (.iload_n 3, 1) := by decide +kernel
theorem dX10_fire_17 : decode cX10_fire 17 = .ok (.iconst 0, 1) := by decide +kernel
theorem dX10_fire_18 : decode cX10_fire 18 = .ok (.iconst 1, 1) := by decide +kernel
theorem dX10_fire_19 : decode cX10_fire 19 = .ok (.invokestatic 61, 3) := by decide +kernel
theorem dX10_fire_22 : decode cX10_fire 22 = .ok (.ifCond .ne 5, 3) := by decide +kernel
theorem dX10_fire_25 : decode cX10_fire 25 = .ok (.iconst (-1), 1) := by decide +kernel
theorem dX10_fire_26 : decode cX10_fire 26 = .ok (.ireturn, 1) := by decide +kernel
theorem dX10_fire_27 : decode cX10_fire 27 = .ok (.bipush (-4), 2) := by decide +kernel
theorem dX10_fire_29 : decode cX10_fire 29 = .ok (.istore 4, 2) := by decide +kernel
theorem dX10_fire_31 : decode cX10_fire 31 = .ok (.aload_n 0, 1) := by decide +kernel
theorem dX10_fire_32 : decode cX10_fire 32 = .ok (.iload_n 1, 1) := by decide +kernel
theorem dX10_fire_33 : decode cX10_fire 33 = .ok (.iload_n 2, 1) := by decide +kernel
theorem dX10_fire_34 : decode cX10_fire 34 = .ok (.invokevirtual 187, 3) := by decide +kernel
theorem dX10_fire_37 : decode cX10_fire 37 = .ok (.istore 5, 2) := by decide +kernel
theorem dX10_fire_39 : decode cX10_fire 39 = .ok (.aload_n 0, 1) := by decide +kernel
theorem dX10_fire_40 : decode cX10_fire 40 = .ok (.iconst 0, 1) := by decide +kernel
theorem dX10_fire_41 : decode cX10_fire 41 = .ok (.aload_n 0, 1) := by decide +kernel
theorem dX10_fire_42 : decode cX10_fire 42 = .ok (.getfield 35, 3) := by decide +kernel
theorem dX10_fire_45 : decode cX10_fire 45 = .ok (.iconst 0, 1) := by decide +kernel
theorem dX10_fire_46 : decode cX10_fire 46 = .ok (.iaload, 1) := by decide +kernel
theorem dX10_fire_47 : decode cX10_fire 47 = .ok (.invokevirtual 122, 3) := by decide +kernel
theorem dX10_fire_50 : decode cX10_fire 50 = .ok (.lstore 6, 2) := by decide +kernel
theorem dX10_fire_52 : decode cX10_fire 52 = .ok (.iconst 0, 1) := by decide +kernel
theorem dX10_fire_53 : decode cX10_fire 53 = .ok (.istore 8, 2) := by decide +kernel
theorem dX10_fire_55 : decode cX10_fire 55 = .ok (.iload 8, 2) := by decide +kernel
theorem dX10_fire_57 : decode cX10_fire 57 = .ok (.aload_n 0, 1) := by decide +kernel
theorem dX10_fire_58 : decode cX10_fire 58 = .ok (.getfield 35, 3) := by decide +kernel
theorem dX10_fire_61 : decode cX10_fire 61 = .ok (.iconst 1, 1) := by decide +kernel
theorem dX10_fire_62 : decode cX10_fire 62 = .ok (.iaload, 1) := by decide +kernel
theorem dX10_fire_63 : decode cX10_fire 63 = .ok (.if_icmp .ge 83, 3) := by decide +kernel
theorem dX10_fire_66 : decode cX10_fire 66 = .ok (.aload_n 0, 1) := by decide +kernel
theorem dX10_fire_67 : decode cX10_fire 67 = .ok (.iconst 0, 1) := by decide +kernel
theorem dX10_fire_68 : decode cX10_fire 68 = .ok (.iload 8, 2) := by decide +kernel
theorem dX10_fire_70 : decode cX10_fire 70 = .ok (.invokevirtual 151, 3) := by decide +kernel
theorem dX10_fire_73 : decode cX10_fire 73 = .ok (.ifCond .eq 34, 3) := by decide +kernel
theorem dX10_fire_76 : decode cX10_fire 76 = .ok (.aload_n 0, 1) := by decide +kernel
theorem dX10_fire_77 : decode cX10_fire 77 = .ok (.lload 6, 2) := by decide +kernel
theorem dX10_fire_79 : decode cX10_fire 79 = .ok (.lconst 1, 1) := by decide +kernel
theorem dX10_fire_80 : decode cX10_fire 80 = .ok (.aload_n 0, 1) := by decide +kernel
theorem dX10_fire_81 : decode cX10_fire 81 = .ok (.getfield 35, 3) := by decide +kernel
theorem dX10_fire_84 : decode cX10_fire 84 = .ok (.iconst 2, 1) := by decide +kernel
theorem dX10_fire_85 : decode cX10_fire 85 = .ok (.iload 8, 2) := by decide +kernel
theorem dX10_fire_87 : decode cX10_fire 87 = .ok (.iadd, 1) := by decide +kernel
theorem dX10_fire_88 : decode cX10_fire 88 = .ok (.iaload, 1) := by decide +kernel
theorem dX10_fire_89 : decode cX10_fire 89 = .ok (.lshl, 1) := by decide +kernel
theorem dX10_fire_90 : decode cX10_fire 90 = .ok (.ldc2_w 163, 3) := by decide +kernel
theorem dX10_fire_93 : decode cX10_fire 93 = .ok (.lxor, 1) := by decide +kernel
theorem dX10_fire_94 : decode cX10_fire 94 = .ok (.land, 1) := by decide +kernel
theorem dX10_fire_95 : decode cX10_fire 95 = .ok (.ldc2_w 163, 3) := by decide +kernel
theorem dX10_fire_98 : decode cX10_fire 98 = .ok (.lxor, 1) := by decide +kernel
theorem dX10_fire_99 : decode cX10_fire 99 = .ok (.iload_n 1, 1) := by decide +kernel
theorem dX10_fire_100 : decode cX10_fire 100 = .ok (.iload_n 2, 1) := by decide +kernel
theorem dX10_fire_101 : decode cX10_fire 101 = .ok (.invokevirtual 165, 3) := by decide +kernel
theorem dX10_fire_104 : decode cX10_fire 104 = .ok (.goto 5, 3) := by decide +kernel
theorem dX10_fire_107 : decode cX10_fire 107 = .ok (.bipush (-4), 2) := by decide +kernel
theorem dX10_fire_109 : decode cX10_fire 109 = .ok (.istore 9, 2) := by decide +kernel
theorem dX10_fire_111 : decode cX10_fire 111 = .ok (.iload 9, 2) := by decide +kernel
theorem dX10_fire_113 : decode cX10_fire 113 = .ok (.bipush (-4), 2) := by decide +kernel
theorem dX10_fire_115 : decode cX10_fire 115 = .ok (.if_icmp .eq 25, 3) := by decide +kernel
theorem dX10_fire_118 : decode cX10_fire 118 = .ok (.iload 5, 2) := by decide +kernel
theorem dX10_fire_120 : decode cX10_fire 120 = .ok (.bipush (-4), 2) := by decide +kernel
theorem dX10_fire_122 : decode cX10_fire 122 = .ok (.if_icmp .eq 10, 3) := by decide +kernel
theorem dX10_fire_125 : decode cX10_fire 125 = .ok (.iload 9, 2) := by decide +kernel
theorem dX10_fire_127 : decode cX10_fire 127 = .ok (.iload 5, 2) := by decide +kernel
theorem dX10_fire_129 : decode cX10_fire 129 = .ok (.if_icmp .ge 11, 3) := by decide +kernel
theorem dX10_fire_132 : decode cX10_fire 132 = .ok (.iload 8, 2) := by decide +kernel
theorem dX10_fire_134 : decode cX10_fire 134 = .ok (.istore 4, 2) := by decide +kernel
theorem dX10_fire_136 : decode cX10_fire 136 = .ok (.iload 9, 2) := by decide +kernel
theorem dX10_fire_138 : decode cX10_fire 138 = .ok (.istore 5, 2) := by decide +kernel
theorem dX10_fire_140 : decode cX10_fire 140 = .ok (.iinc 8 1, 3) := by decide +kernel
theorem dX10_fire_143 : decode cX10_fire 143 = .ok (.goto (-88), 3) := by decide +kernel
theorem dX10_fire_146 : decode cX10_fire 146 = .ok (.iload 4, 2) := by decide +kernel
theorem dX10_fire_148 : decode cX10_fire 148 = .ok (.bipush (-4), 2) := by decide +kernel
theorem dX10_fire_150 : decode cX10_fire 150 = .ok (.if_icmp .eq 7, 3) := by decide +kernel
theorem dX10_fire_153 : decode cX10_fire 153 = .ok (.iload_n 3, 1) := by decide +kernel
theorem dX10_fire_154 : decode cX10_fire 154 = .ok (.ifCond .ne 8, 3) := by decide +kernel
theorem dX10_fire_157 : decode cX10_fire 157 = .ok (.iload 4, 2) := by decide +kernel
theorem dX10_fire_159 : decode cX10_fire 159 = .ok (.goto 5, 3) := by decide +kernel
theorem dX10_fire_162 : decode cX10_fire 162 = .ok (.iload 5, 2) := by decide +kernel
theorem dX10_fire_164 : decode cX10_fire 164 = .ok (.ireturn, 1) := by decide +kernel
theorem dX10_land_0 : decode cX10_land 0 = .ok (.iload_n 1, 1) := by decide +kernel
theorem dX10_land_1 : decode cX10_land 1 = .ok (.iconst 0, 1) := by decide +kernel
theorem dX10_land_2 : decode cX10_land 2 = .ok (.sipush 9999, 3) := by decide +kernel
theorem dX10_land_5 : decode cX10_land 5 = .ok (.invokestatic 61, 3) := by decide +kernel
theorem dX10_land_8 : decode cX10_land 8 = .ok (.ifCond .eq 22, 3) := by decide +kernel
theorem dX10_land_11 : decode cX10_land 11 = .ok (.iload_n 2, 1) := by decide +kernel
theorem dX10_land_12 : decode cX10_land 12 = .ok (.iconst 1, 1) := by decide +kernel
theorem dX10_land_13 : decode cX10_land 13 = .ok (.bipush 60, 2) := by decide +kernel
theorem dX10_land_15 : decode cX10_land 15 = .ok (.invokestatic 61, 3) := by decide +kernel
theorem dX10_land_18 : decode cX10_land 18 = .ok (.ifCond .eq 12, 3) := by decide +kernel
theorem dX10_land_21 : decode cX10_land 21 = .ok (.iload_n 3, 1) := by decide +kernel
theorem dX10_land_22 : decode cX10_land 22 = .ok (.iconst 0, 1) := by decide +kernel
theorem dX10_land_23 : decode cX10_land 23 = .ok (.iconst 1, 1) := by decide +kernel
theorem dX10_land_24 : decode cX10_land 24 = .ok (.invokestatic 61, 3) := by decide +kernel
theorem dX10_land_27 : decode cX10_land 27 = .ok (.ifCond .ne 5, 3) := by decide +kernel
theorem dX10_land_30 : decode cX10_land 30 = .ok (.iconst (-1), 1) := by decide +kernel
theorem dX10_land_31 : decode cX10_land 31 = .ok (.ireturn, 1) := by decide +kernel
theorem dX10_land_32 : decode cX10_land 32 = .ok (.aload_n 0, 1) := by decide +kernel
theorem dX10_land_33 : decode cX10_land 33 = .ok (.iconst 0, 1) := by decide +kernel
theorem dX10_land_34 : decode cX10_land 34 = .ok (.sipush 462, 3) := by decide +kernel
theorem dX10_land_37 : decode cX10_land 37 = .ok (.invokevirtual 144, 3) := by decide +kernel
theorem dX10_land_40 : decode cX10_land 40 = .ok (.iconst 0, 1) := by decide +kernel
theorem dX10_land_41 : decode cX10_land 41 = .ok (.istore 4, 2) := by decide +kernel
theorem dX10_land_43 : decode cX10_land 43 = .ok (.iload 4, 2) := by decide +kernel
theorem dX10_land_45 : decode cX10_land 45 = .ok (.iload_n 2, 1) := by decide +kernel
theorem dX10_land_46 : decode cX10_land 46 = .ok (.if_icmp .ge 105, 3) := by decide +kernel
theorem dX10_land_49 : decode cX10_land 49 = .ok (.ldc2_w 190, 3) := by decide +kernel
theorem dX10_land_52 : decode cX10_land 52 = .ok (.iload_n 1, 1) := by decide +kernel
theorem dX10_land_53 : decode cX10_land 53 = .ok (.i2l, 1) := by decide +kernel
theorem dX10_land_54 : decode cX10_land 54 = .ok (.lmul, 1) := by decide +kernel
theorem dX10_land_55 : decode cX10_land 55 = .ok (.ldc2_w 192, 3) := by decide +kernel
theorem dX10_land_58 : decode cX10_land 58 = .ok (.iload 4, 2) := by decide +kernel
theorem dX10_land_60 : decode cX10_land 60 = .ok (.i2l, 1) := by decide +kernel
theorem dX10_land_61 : decode cX10_land 61 = .ok (.lmul, 1) := by decide +kernel
theorem dX10_land_62 : decode cX10_land 62 = .ok (.ladd, 1) := by decide +kernel
theorem dX10_land_63 : decode cX10_land 63 = .ok (.lconst 1, 1) := by decide +kernel
theorem dX10_land_64 : decode cX10_land 64 = .ok (.ladd, 1) := by decide +kernel
theorem dX10_land_65 : decode cX10_land 65 = .ok (.lstore 5, 2) := by decide +kernel
theorem dX10_land_67 : decode cX10_land 67 = .ok (.lload 5, 2) := by decide +kernel
theorem dX10_land_69 : decode cX10_land 69 = .ok (.lload 5, 2) := by decide +kernel
theorem dX10_land_71 : decode cX10_land 71 = .ok (.lmul, 1) := by decide +kernel
theorem dX10_land_72 : decode cX10_land 72 = .ok (.ldc2_w 194, 3) := by decide +kernel
theorem dX10_land_75 : decode cX10_land 75 = .ok (.lrem, 1) := by decide +kernel
theorem dX10_land_76 : decode cX10_land 76 = .ok (.l2i, 1) := by decide +kernel
theorem dX10_land_77 : decode cX10_land 77 = .ok (.istore 7, 2) := by decide +kernel
theorem dX10_land_79 : decode cX10_land 79 = .ok (.iload 7, 2) := by decide +kernel
theorem dX10_land_81 : decode cX10_land 81 = .ok (.aload_n 0, 1) := by decide +kernel
theorem dX10_land_82 : decode cX10_land 82 = .ok (.getfield 35, 3) := by decide +kernel
theorem dX10_land_85 : decode cX10_land 85 = .ok (.sipush 463, 3) := by decide +kernel
theorem dX10_land_88 : decode cX10_land 88 = .ok (.iaload, 1) := by decide +kernel
theorem dX10_land_89 : decode cX10_land 89 = .ok (.irem, 1) := by decide +kernel
theorem dX10_land_90 : decode cX10_land 90 = .ok (.istore 8, 2) := by decide +kernel
theorem dX10_land_92 : decode cX10_land 92 = .ok (.aload_n 0, 1) := by decide +kernel
theorem dX10_land_93 : decode cX10_land 93 = .ok (.sipush 462, 3) := by decide +kernel
theorem dX10_land_96 : decode cX10_land 96 = .ok (.iload 8, 2) := by decide +kernel
theorem dX10_land_98 : decode cX10_land 98 = .ok (.invokevirtual 151, 3) := by decide +kernel
theorem dX10_land_101 : decode cX10_land 101 = .ok (.ifCond .eq 32, 3) := by decide +kernel
theorem dX10_land_104 : decode cX10_land 104 = .ok (.iload 7, 2) := by decide +kernel
theorem dX10_land_106 : decode cX10_land 106 = .ok (.bipush 16, 2) := by decide +kernel
theorem dX10_land_108 : decode cX10_land 108 = .ok (.idiv, 1) := by decide +kernel
theorem dX10_land_109 : decode cX10_land 109 = .ok (.iconst 3, 1) := by decide +kernel
theorem dX10_land_110 : decode cX10_land 110 = .ok (.irem, 1) := by decide +kernel
theorem dX10_land_111 : decode cX10_land 111 = .ok (.ifCond .ne 22, 3) := by decide +kernel
theorem dX10_land_114 : decode cX10_land 114 = .ok (.aload_n 0, 1) := by decide +kernel
theorem dX10_land_115 : decode cX10_land 115 = .ok (.getfield 35, 3) := by decide +kernel
theorem dX10_land_118 : decode cX10_land 118 = .ok (.sipush 484, 3) := by decide +kernel
theorem dX10_land_121 : decode cX10_land 121 = .ok (.iload 8, 2) := by decide +kernel
theorem dX10_land_123 : decode cX10_land 123 = .ok (.iadd, 1) := by decide +kernel
theorem dX10_land_124 : decode cX10_land 124 = .ok (.aload_n 0, 1) := by decide +kernel
theorem dX10_land_125 : decode cX10_land 125 = .ok (.getfield 35, 3) := by decide +kernel
theorem dX10_land_128 : decode cX10_land 128 = .ok (.sipush 462, 3) := by decide +kernel
theorem dX10_land_131 : decode cX10_land 131 = .ok (.iaload, 1) := by decide +kernel
theorem dX10_land_132 : decode cX10_land 132 = .ok (.iastore, 1) := by decide +kernel
theorem dX10_land_133 : decode cX10_land 133 = .ok (.aload_n 0, 1) := by decide +kernel
theorem dX10_land_134 : decode cX10_land 134 = .ok (.getfield 35, 3) := by decide +kernel
theorem dX10_land_137 : decode cX10_land 137 = .ok (.sipush 462, 3) := by decide +kernel
theorem dX10_land_140 : decode cX10_land 140 = .ok (.dup2, 1) := by decide +kernel
theorem dX10_land_141 : decode cX10_land 141 = .ok (.iaload, 1) := by decide +kernel
theorem dX10_land_142 : decode cX10_land 142 = .ok (.iconst 1, 1) := by decide +kernel
theorem dX10_land_143 : decode cX10_land 143 = .ok (.iadd, 1) := by decide +kernel
theorem dX10_land_144 : decode cX10_land 144 = .ok (.iastore, 1) := by decide +kernel
theorem dX10_land_145 : decode cX10_land 145 = .ok (.iinc 4 1, 3) := by decide +kernel
theorem dX10_land_148 : decode cX10_land 148 = .ok (.goto (-105), 3) := by decide +kernel
theorem dX10_land_151 : decode cX10_land 151 = .ok (.aload_n 0, 1) := by decide +kernel
theorem dX10_land_152 : decode cX10_land 152 = .ok (.sipush 462, 3) := by decide +kernel
theorem dX10_land_155 : decode cX10_land 155 = .ok (.iload_n 3, 1) := by decide +kernel
theorem dX10_land_156 : decode cX10_land 156 = .ok (.ifCond .ne 7, 3) := by decide +kernel
theorem dX10_land_159 : decode cX10_land 159 = .ok (.iconst 1, 1) := by decide +kernel
theorem dX10_land_160 : decode cX10_land 160 = .ok (.goto 4, 3) := by decide +kernel
theorem dX10_land_163 : decode cX10_land 163 = .ok (.iconst 0, 1) := by decide +kernel
theorem dX10_land_164 : decode cX10_land 164 = .ok (.invokevirtual 196, 3) := by decide +kernel
theorem dX10_land_167 : decode cX10_land 167 = .ok (.ireturn, 1) := by decide +kernel
theorem dX10_manyBy_0 : decode cX10_manyBy 0 = .ok (.iconst 0, 1) := by decide +kernel
theorem dX10_manyBy_1 : decode cX10_manyBy 1 = .ok (.istore_n 3, 1) := by decide +kernel
theorem dX10_manyBy_2 : decode cX10_manyBy 2 = .ok (.iconst 0, 1) := by decide +kernel
theorem dX10_manyBy_3 : decode cX10_manyBy 3 = .ok (.istore 4, 2) := by decide +kernel
theorem dX10_manyBy_5 : decode cX10_manyBy 5 = .ok (.iload 4, 2) := by decide +kernel
theorem dX10_manyBy_7 : decode cX10_manyBy 7 = .ok (.aload_n 0, 1) := by decide +kernel
theorem dX10_manyBy_8 : decode cX10_manyBy 8 = .ok (.getfield 35, 3) := by decide +kernel
theorem dX10_manyBy_11 : decode cX10_manyBy 11 = .ok (.iload_n 1, 1) := by decide +kernel
theorem dX10_manyBy_12 : decode cX10_manyBy 12 = .ok (.iconst 1, 1) := by decide +kernel
theorem dX10_manyBy_13 : decode cX10_manyBy 13 = .ok (.iadd, 1) := by decide +kernel
theorem dX10_manyBy_14 : decode cX10_manyBy 14 = .ok (.iaload, 1) := by decide +kernel
theorem dX10_manyBy_15 : decode cX10_manyBy 15 = .ok (.if_icmp .ge 60, 3) := by decide +kernel
theorem dX10_manyBy_18 : decode cX10_manyBy 18 = .ok (.iload_n 3, 1) := by decide +kernel
theorem dX10_manyBy_19 : decode cX10_manyBy 19 = .ok (.iload_n 2, 1) := by decide +kernel
theorem dX10_manyBy_20 : decode cX10_manyBy 20 = .ok (.ifCond .eq 24, 3) := by decide +kernel
theorem dX10_manyBy_23 : decode cX10_manyBy 23 = .ok (.aload_n 0, 1) := by decide +kernel
theorem dX10_manyBy_24 : decode cX10_manyBy 24 = .ok (.iload_n 1, 1) := by decide +kernel
theorem dX10_manyBy_25 : decode cX10_manyBy 25 = .ok (.iload 4, 2) := by decide +kernel
theorem dX10_manyBy_27 : decode cX10_manyBy 27 = .ok (.aload_n 0, 1) := by decide +kernel
theorem dX10_manyBy_28 : decode cX10_manyBy 28 = .ok (.getfield 35, 3) := by decide +kernel
theorem dX10_manyBy_31 : decode cX10_manyBy 31 = .ok (.iload_n 1, 1) := by decide +kernel
theorem dX10_manyBy_32 : decode cX10_manyBy 32 = .ok (.iconst 0, 1) := by decide +kernel
theorem dX10_manyBy_33 : decode cX10_manyBy 33 = .ok (.iadd, 1) := by decide +kernel
theorem dX10_manyBy_34 : decode cX10_manyBy 34 = .ok (.iaload, 1) := by decide +kernel
theorem dX10_manyBy_35 : decode cX10_manyBy 35 = .ok (.invokevirtual 110, 3) := by decide +kernel
theorem dX10_manyBy_38 : decode cX10_manyBy 38 = .ok (.ifCond .eq 28, 3) := by decide +kernel
theorem dX10_manyBy_41 : decode cX10_manyBy 41 = .ok (.goto 21, 3) := by decide +kernel
theorem dX10_manyBy_44 : decode cX10_manyBy 44 = .ok (.aload_n 0, 1) := by decide +kernel
theorem dX10_manyBy_45 : decode cX10_manyBy 45 = .ok (.iload_n 1, 1) := by decide +kernel
theorem dX10_manyBy_46 : decode cX10_manyBy 46 = .ok (.iload 4, 2) := by decide +kernel
theorem dX10_manyBy_48 : decode cX10_manyBy 48 = .ok (.aload_n 0, 1) := by decide +kernel
theorem dX10_manyBy_49 : decode cX10_manyBy 49 = .ok (.getfield 35, 3) := by decide +kernel
theorem dX10_manyBy_52 : decode cX10_manyBy 52 = .ok (.iload_n 1, 1) := by decide +kernel
theorem dX10_manyBy_53 : decode cX10_manyBy 53 = .ok (.iconst 0, 1) := by decide +kernel
theorem dX10_manyBy_54 : decode cX10_manyBy 54 = .ok (.iadd, 1) := by decide +kernel
theorem dX10_manyBy_55 : decode cX10_manyBy 55 = .ok (.iaload, 1) := by decide +kernel
theorem dX10_manyBy_56 : decode cX10_manyBy 56 = .ok (.invokevirtual 113, 3) := by decide +kernel
theorem dX10_manyBy_59 : decode cX10_manyBy 59 = .ok (.ifCond .eq 7, 3) := by decide +kernel
theorem dX10_manyBy_62 : decode cX10_manyBy 62 = .ok (.iconst 1, 1) := by decide +kernel
theorem dX10_manyBy_63 : decode cX10_manyBy 63 = .ok (.goto 4, 3) := by decide +kernel
theorem dX10_manyBy_66 : decode cX10_manyBy 66 = .ok (.iconst 0, 1) := by decide +kernel
theorem dX10_manyBy_67 : decode cX10_manyBy 67 = .ok (.iadd, 1) := by decide +kernel
theorem dX10_manyBy_68 : decode cX10_manyBy 68 = .ok (.istore_n 3, 1) := by decide +kernel
theorem dX10_manyBy_69 : decode cX10_manyBy 69 = .ok (.iinc 4 1, 3) := by decide +kernel
theorem dX10_manyBy_72 : decode cX10_manyBy 72 = .ok (.goto (-67), 3) := by decide +kernel
theorem dX10_manyBy_75 : decode cX10_manyBy 75 = .ok (.iload_n 3, 1) := by decide +kernel
theorem dX10_manyBy_76 : decode cX10_manyBy 76 = .ok (.ireturn, 1) := by decide +kernel
theorem dX10_keep_0 : decode cX10_keep 0 = .ok (.aload_n 0, 1) := by decide +kernel
theorem dX10_keep_1 : decode cX10_keep 1 = .ok (.getfield 100, 3) := by decide +kernel
theorem dX10_keep_4 : decode cX10_keep 4 = .ok (.iconst 2, 1) := by decide +kernel
theorem dX10_keep_5 : decode cX10_keep 5 = .ok (.if_icmp .ne 6, 3) := by decide +kernel
theorem dX10_keep_8 : decode cX10_keep 8 = .ok (.bipush (-3), 2) := by decide +kernel
theorem dX10_keep_10 : decode cX10_keep 10 = .ok (.ireturn, 1) := by decide +kernel
theorem dX10_keep_11 : decode cX10_keep 11 = .ok (.aload_n 0, 1) := by decide +kernel
theorem dX10_keep_12 : decode cX10_keep 12 = .ok (.iconst 0, 1) := by decide +kernel
theorem dX10_keep_13 : decode cX10_keep 13 = .ok (.sipush 378, 3) := by decide +kernel
theorem dX10_keep_16 : decode cX10_keep 16 = .ok (.bipush 42, 2) := by decide +kernel
theorem dX10_keep_18 : decode cX10_keep 18 = .ok (.aload_n 0, 1) := by decide +kernel
theorem dX10_keep_19 : decode cX10_keep 19 = .ok (.getfield 100, 3) := by decide +kernel
theorem dX10_keep_22 : decode cX10_keep 22 = .ok (.imul, 1) := by decide +kernel
theorem dX10_keep_23 : decode cX10_keep 23 = .ok (.iadd, 1) := by decide +kernel
theorem dX10_keep_24 : decode cX10_keep 24 = .ok (.invokevirtual 144, 3) := by decide +kernel
theorem dX10_keep_27 : decode cX10_keep 27 = .ok (.aload_n 0, 1) := by decide +kernel
theorem dX10_keep_28 : decode cX10_keep 28 = .ok (.dup, 1) := by decide +kernel
theorem dX10_keep_29 : decode cX10_keep 29 = .ok (.getfield 100, 3) := by decide +kernel
theorem dX10_keep_32 : decode cX10_keep 32 = .ok (.iconst 1, 1) := by decide +kernel
theorem dX10_keep_33 : decode cX10_keep 33 = .ok (.iadd, 1) := by decide +kernel
theorem dX10_keep_34 : decode cX10_keep 34 = .ok (.putfield 100, 3) := by decide +kernel
theorem dX10_keep_37 : decode cX10_keep 37 = .ok (.aload_n 0, 1) := by decide +kernel
theorem dX10_keep_38 : decode cX10_keep 38 = .ok (.getfield 100, 3) := by decide +kernel
theorem dX10_keep_41 : decode cX10_keep 41 = .ok (.ireturn, 1) := by decide +kernel
theorem dX10_back_0 : decode cX10_back 0 = .ok (.aload_n 0, 1) := by decide +kernel
theorem dX10_back_1 : decode cX10_back 1 = .ok (.getfield 100, 3) := by decide +kernel
theorem dX10_back_4 : decode cX10_back 4 = .ok (.ifCond .ne 6, 3) := by decide +kernel
theorem dX10_back_7 : decode cX10_back 7 = .ok (.bipush (-2), 2) := by decide +kernel
theorem dX10_back_9 : decode cX10_back 9 = .ok (.ireturn, 1) := by decide +kernel
theorem dX10_back_10 : decode cX10_back 10 = .ok (.aload_n 0, 1) := by decide +kernel
theorem dX10_back_11 : decode cX10_back 11 = .ok (.dup, 1) := by decide +kernel
theorem dX10_back_12 : decode cX10_back 12 = .ok (.getfield 100, 3) := by decide +kernel
theorem dX10_back_15 : decode cX10_back 15 = .ok (.iconst 1, 1) := by decide +kernel
theorem dX10_back_16 : decode cX10_back 16 = .ok (.isub, 1) := by decide +kernel
theorem dX10_back_17 : decode cX10_back 17 = .ok (.putfield 100, 3) := by decide +kernel
theorem dX10_back_20 : decode cX10_back 20 = .ok (.aload_n 0, 1) := by decide +kernel
theorem dX10_back_21 : decode cX10_back 21 = .ok (.sipush 378, 3) := by decide +kernel
theorem dX10_back_24 : decode cX10_back 24 = .ok (.bipush 42, 2) := by decide +kernel
theorem dX10_back_26 : decode cX10_back 26 = .ok (.aload_n 0, 1) := by decide +kernel
theorem dX10_back_27 : decode cX10_back 27 = .ok (.getfield 100, 3) := by decide +kernel
theorem dX10_back_30 : decode cX10_back 30 = .ok (.imul, 1) := by decide +kernel
theorem dX10_back_31 : decode cX10_back 31 = .ok (.iadd, 1) := by decide +kernel
theorem dX10_back_32 : decode cX10_back 32 = .ok (.iconst 0, 1) := by decide +kernel
theorem dX10_back_33 : decode cX10_back 33 = .ok (.invokevirtual 144, 3) := by decide +kernel
theorem dX10_back_36 : decode cX10_back 36 = .ok (.aload_n 0, 1) := by decide +kernel
theorem dX10_back_37 : decode cX10_back 37 = .ok (.iconst 0, 1) := by decide +kernel
theorem dX10_back_38 : decode cX10_back 38 = .ok (.putfield 97, 3) := by decide +kernel
theorem dX10_back_41 : decode cX10_back 41 = .ok (.aload_n 0, 1) := by decide +kernel
theorem dX10_back_42 : decode cX10_back 42 = .ok (.getfield 100, 3) := by decide +kernel
theorem dX10_back_45 : decode cX10_back 45 = .ok (.ireturn, 1) := by decide +kernel
theorem dX10_count_0 : decode cX10_count 0 = .ok (.iload_n 1, 1) := by decide +kernel
theorem dX10_count_1 : decode cX10_count 1 = .ok (.tableswitch 116 0 9 #[55, 61, 68, 75, 82, 89, 96, 101, 106, 111], 55) := by decide +kernel
theorem dX10_count_56 : decode cX10_count 56 = .ok (.aload_n 0, 1) := by decide +kernel
theorem dX10_count_57 : decode cX10_count 57 = .ok (.iconst 0, 1) := by decide +kernel
theorem dX10_count_58 : decode cX10_count 58 = .ok (.invokevirtual 87, 3) := by decide +kernel
theorem dX10_count_61 : decode cX10_count 61 = .ok (.ireturn, 1) := by decide +kernel
theorem dX10_count_62 : decode cX10_count 62 = .ok (.aload_n 0, 1) := by decide +kernel
theorem dX10_count_63 : decode cX10_count 63 = .ok (.getfield 35, 3) := by decide +kernel
theorem dX10_count_66 : decode cX10_count 66 = .ok (.iconst 1, 1) := by decide +kernel
theorem dX10_count_67 : decode cX10_count 67 = .ok (.iaload, 1) := by decide +kernel
theorem dX10_count_68 : decode cX10_count 68 = .ok (.ireturn, 1) := by decide +kernel
theorem dX10_count_69 : decode cX10_count 69 = .ok (.aload_n 0, 1) := by decide +kernel
theorem dX10_count_70 : decode cX10_count 70 = .ok (.getfield 20, 3) := by decide +kernel
theorem dX10_count_73 : decode cX10_count 73 = .ok (.iconst 0, 1) := by decide +kernel
theorem dX10_count_74 : decode cX10_count 74 = .ok (.iaload, 1) := by decide +kernel
theorem dX10_count_75 : decode cX10_count 75 = .ok (.ireturn, 1) := by decide +kernel
theorem dX10_count_76 : decode cX10_count 76 = .ok (.aload_n 0, 1) := by decide +kernel
theorem dX10_count_77 : decode cX10_count 77 = .ok (.getfield 35, 3) := by decide +kernel
theorem dX10_count_80 : decode cX10_count 80 = .ok (.iconst 0, 1) := by decide +kernel
theorem dX10_count_81 : decode cX10_count 81 = .ok (.iaload, 1) := by decide +kernel
theorem dX10_count_82 : decode cX10_count 82 = .ok (.ireturn, 1) := by decide +kernel
theorem dX10_count_83 : decode cX10_count 83 = .ok (.aload_n 0, 1) := by decide +kernel
theorem dX10_count_84 : decode cX10_count 84 = .ok (.iconst 0, 1) := by decide +kernel
theorem dX10_count_85 : decode cX10_count 85 = .ok (.iconst 1, 1) := by decide +kernel
theorem dX10_count_86 : decode cX10_count 86 = .ok (.invokevirtual 196, 3) := by decide +kernel
theorem dX10_count_89 : decode cX10_count 89 = .ok (.ireturn, 1) := by decide +kernel
theorem dX10_count_90 : decode cX10_count 90 = .ok (.aload_n 0, 1) := by decide +kernel
theorem dX10_count_91 : decode cX10_count 91 = .ok (.iconst 0, 1) := by decide +kernel
theorem dX10_count_92 : decode cX10_count 92 = .ok (.iconst 0, 1) := by decide +kernel
theorem dX10_count_93 : decode cX10_count 93 = .ok (.invokevirtual 196, 3) := by decide +kernel
theorem dX10_count_96 : decode cX10_count 96 = .ok (.ireturn, 1) := by decide +kernel
theorem dX10_count_97 : decode cX10_count 97 = .ok (.aload_n 0, 1) := by decide +kernel
theorem dX10_count_98 : decode cX10_count 98 = .ok (.getfield 103, 3) := by decide +kernel
theorem dX10_count_101 : decode cX10_count 101 = .ok (.ireturn, 1) := by decide +kernel
theorem dX10_count_102 : decode cX10_count 102 = .ok (.aload_n 0, 1) := by decide +kernel
theorem dX10_count_103 : decode cX10_count 103 = .ok (.getfield 97, 3) := by decide +kernel
theorem dX10_count_106 : decode cX10_count 106 = .ok (.ireturn, 1) := by decide +kernel
theorem dX10_count_107 : decode cX10_count 107 = .ok (.aload_n 0, 1) := by decide +kernel
theorem dX10_count_108 : decode cX10_count 108 = .ok (.getfield 100, 3) := by decide +kernel
theorem dX10_count_111 : decode cX10_count 111 = .ok (.ireturn, 1) := by decide +kernel
theorem dX10_count_112 : decode cX10_count 112 = .ok (.aload_n 0, 1) := by decide +kernel
theorem dX10_count_113 : decode cX10_count 113 = .ok (.getfield 65, 3) := by decide +kernel
theorem dX10_count_116 : decode cX10_count 116 = .ok (.ireturn, 1) := by decide +kernel
theorem dX10_count_117 : decode cX10_count 117 = .ok (.iconst (-1), 1) := by decide +kernel
theorem dX10_count_118 : decode cX10_count 118 = .ok (.ireturn, 1) := by decide +kernel
