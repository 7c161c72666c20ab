theorem dX11_init_0 : decode cX11_init 0 = .ok (.aload_n 0, 1) := by decide +kernel
theorem dX11_init_1 : decode cX11_init 1 = .ok (.invokespecial 1, 3) := by decide +kernel
theorem dX11_init_4 : decode cX11_init 4 = .ok (.aload_n 0, 1) := by decide +kernel
theorem dX11_init_5 : decode cX11_init 5 = .ok (.new 7, 3) := by decide +kernel
theorem dX11_init_8 : decode cX11_init 8 = .ok (.dup, 1) := by decide +kernel
theorem dX11_init_9 : decode cX11_init 9 = .ok (.invokespecial 9, 3) := by decide +kernel
theorem dX11_init_12 : decode cX11_init 12 = .ok (.putfield 10, 3) := by decide +kernel
theorem dX11_init_15 : decode cX11_init 15 = .ok (.aload_n 0, 1) := by decide +kernel
theorem dX11_init_16 : decode cX11_init 16 = .ok (.new 16, 3) := by decide +kernel
theorem dX11_init_19 : decode cX11_init 19 = .ok (.dup, 1) := by decide +kernel
theorem dX11_init_20 : decode cX11_init 20 = .ok (.invokespecial 18, 3) := by decide +kernel
theorem dX11_init_23 : decode cX11_init 23 = .ok (.putfield 19, 3) := by decide +kernel
theorem dX11_init_26 : decode cX11_init 26 = .ok (.aload_n 0, 1) := by decide +kernel
theorem dX11_init_27 : decode cX11_init 27 = .ok (.new 23, 3) := by decide +kernel
theorem dX11_init_30 : decode cX11_init 30 = .ok (.dup, 1) := by decide +kernel
theorem dX11_init_31 : decode cX11_init 31 = .ok (.invokespecial 25, 3) := by decide +kernel
theorem dX11_init_34 : decode cX11_init 34 = .ok (.putfield 26, 3) := by decide +kernel
theorem dX11_init_37 : decode cX11_init 37 = .ok (.aload_n 0, 1) := by decide +kernel
theorem dX11_init_38 : decode cX11_init 38 = .ok (.bipush 6, 2) := by decide +kernel
theorem dX11_init_40 : decode cX11_init 40 = .ok (.anewarray 30, 3) := by decide +kernel
theorem dX11_init_43 : decode cX11_init 43 = .ok (.putfield 32, 3) := by decide +kernel
theorem dX11_init_46 : decode cX11_init 46 = .ok (.aload_n 0, 1) := by decide +kernel
theorem dX11_init_47 : decode cX11_init 47 = .ok (.new 36, 3) := by decide +kernel
theorem dX11_init_50 : decode cX11_init 50 = .ok (.dup, 1) := by decide +kernel
theorem dX11_init_51 : decode cX11_init 51 = .ok (.invokespecial 38, 3) := by decide +kernel
theorem dX11_init_54 : decode cX11_init 54 = .ok (.putfield 39, 3) := by decide +kernel
theorem dX11_init_57 : decode cX11_init 57 = .ok (.aload_n 0, 1) := by decide +kernel
theorem dX11_init_58 : decode cX11_init 58 = .ok (.new 43, 3) := by decide +kernel
theorem dX11_init_61 : decode cX11_init 61 = .ok (.dup, 1) := by decide +kernel
theorem dX11_init_62 : decode cX11_init 62 = .ok (.invokespecial 45, 3) := by decide +kernel
theorem dX11_init_65 : decode cX11_init 65 = .ok (.putfield 46, 3) := by decide +kernel
theorem dX11_init_68 : decode cX11_init 68 = .ok (.aload_n 0, 1) := by decide +kernel
theorem dX11_init_69 : decode cX11_init 69 = .ok (.new 43, 3) := by decide +kernel
theorem dX11_init_72 : decode cX11_init 72 = .ok (.dup, 1) := by decide +kernel
theorem dX11_init_73 : decode cX11_init 73 = .ok (.invokespecial 45, 3) := by decide +kernel
theorem dX11_init_76 : decode cX11_init 76 = .ok (.putfield 50, 3) := by decide +kernel
theorem dX11_init_79 : decode cX11_init 79 = .ok (.aload_n 0, 1) := by decide +kernel
theorem dX11_init_80 : decode cX11_init 80 = .ok (.bipush 10, 2) := by decide +kernel
theorem dX11_init_82 : decode cX11_init 82 = .ok (.anewarray 43, 3) := by decide +kernel
theorem dX11_init_85 : decode cX11_init 85 = .ok (.putfield 53, 3) := by decide +kernel
theorem dX11_init_88 : decode cX11_init 88 = .ok (.aload_n 0, 1) := by decide +kernel
theorem dX11_init_89 : decode cX11_init 89 = .ok (.iconst 2, 1) := by decide +kernel
theorem dX11_init_90 : decode cX11_init 90 = .ok (.anewarray 43, 3) := by decide +kernel
theorem dX11_init_93 : decode cX11_init 93 = .ok (.putfield 57, 3) := by decide +kernel
theorem dX11_init_96 : decode cX11_init 96 = .ok (.aload_n 0, 1) := by decide +kernel
theorem dX11_init_97 : decode cX11_init 97 = .ok (.iconst 2, 1) := by decide +kernel
theorem dX11_init_98 : decode cX11_init 98 = .ok (.newarray .boolean, 2) := by decide +kernel
theorem dX11_init_100 : decode cX11_init 100 = .ok (.putfield 60, 3) := by decide +kernel
theorem dX11_init_103 : decode cX11_init 103 = .ok (.aload_n 0, 1) := by decide +kernel
theorem dX11_init_104 : decode cX11_init 104 = .ok (.bipush 6, 2) := by decide +kernel
theorem dX11_init_106 : decode cX11_init 106 = .ok (.newarray .int, 2) := by decide +kernel
theorem dX11_init_108 : decode cX11_init 108 = .ok (.putfield 64, 3) := by decide +kernel
theorem dX11_init_111 : decode cX11_init 111 = .ok (.aload_n 0, 1) := by decide +kernel
theorem dX11_init_112 : decode cX11_init 112 = .ok (.bipush 6, 2) := by decide +kernel
theorem dX11_init_114 : decode cX11_init 114 = .ok (.newarray .int, 2) := by decide +kernel
theorem dX11_init_116 : decode cX11_init 116 = .ok (.putfield 68, 3) := by decide +kernel
theorem dX11_init_119 : decode cX11_init 119 = .ok (.aload_n 0, 1) := by decide +kernel
theorem dX11_init_120 : decode cX11_init 120 = .ok (.bipush 6, 2) := by decide +kernel
theorem dX11_init_122 : decode cX11_init 122 = .ok (.newarray .boolean, 2) := by decide +kernel
theorem dX11_init_124 : decode cX11_init 124 = .ok (.putfield 71, 3) := by decide +kernel
theorem dX11_init_127 : decode cX11_init 127 = .ok (.aload_n 0, 1) := by decide +kernel
theorem dX11_init_128 : decode cX11_init 128 = .ok (.bipush 9, 2) := by decide +kernel
theorem dX11_init_130 : decode cX11_init 130 = .ok (.newarray .int, 2) := by decide +kernel
theorem dX11_init_132 : decode cX11_init 132 = .ok (.putfield 74, 3) := by decide +kernel
theorem dX11_init_135 : decode cX11_init 135 = .ok (.iconst 0, 1) := by decide +kernel
theorem dX11_init_136 : decode cX11_init 136 = .ok (.istore_n 1, 1) := by decide +kernel
theorem dX11_init_137 : decode cX11_init 137 = .ok (.iload_n 1, 1) := by decide +kernel
theorem dX11_init_138 : decode cX11_init 138 = .ok (.bipush 10, 2) := by decide +kernel
theorem dX11_init_140 : decode cX11_init 140 = .ok (.if_icmp .ge 22, 3) := by decide +kernel
theorem dX11_init_143 : decode cX11_init 143 = .ok (.aload_n 0, 1) := by decide +kernel
theorem dX11_init_144 : decode cX11_init 144 = .ok (.getfield 53, 3) := by decide +kernel
theorem dX11_init_147 : decode cX11_init 147 = .ok (.iload_n 1, 1) := by decide +kernel
theorem dX11_init_148 : decode cX11_init 148 = .ok (.new 43, 3) := by decide +kernel
theorem dX11_init_151 : decode cX11_init 151 = .ok (.dup, 1) := by decide +kernel
theorem dX11_init_152 : decode cX11_init 152 = .ok (.invokespecial 45, 3) := by decide +kernel
theorem dX11_init_155 : decode cX11_init 155 = .ok (.aastore, 1) := by decide +kernel
theorem dX11_init_156 : decode cX11_init 156 = .ok (.iinc 1 1, 3) := by decide +kernel
theorem dX11_init_159 : decode cX11_init 159 = .ok (.goto (-22), 3) := by decide +kernel
theorem dX11_init_162 : decode cX11_init 162 = .ok (.iconst 0, 1) := by decide +kernel
theorem dX11_init_163 : decode cX11_init 163 = .ok (.istore_n 1, 1) := by decide +kernel
theorem dX11_init_164 : decode cX11_init 164 = .ok (.iload_n 1, 1) := by decide +kernel
theorem dX11_init_165 : decode cX11_init 165 = .ok (.iconst 2, 1) := by decide +kernel
theorem dX11_init_166 : decode cX11_init 166 = .ok (.if_icmp .ge 22, 3) := by decide +kernel
theorem dX11_init_169 : decode cX11_init 169 = .ok (.aload_n 0, 1) := by decide +kernel
theorem dX11_init_170 : decode cX11_init 170 = .ok (.getfield 57, 3) := by decide +kernel
theorem dX11_init_173 : decode cX11_init 173 = .ok (.iload_n 1, 1) := by decide +kernel
theorem dX11_init_174 : decode cX11_init 174 = .ok (.new 43, 3) := by decide +kernel
theorem dX11_init_177 : decode cX11_init 177 = .ok (.dup, 1) := by decide +kernel
theorem dX11_init_178 : decode cX11_init 178 = .ok (.invokespecial 45, 3) := by decide +kernel
theorem dX11_init_181 : decode cX11_init 181 = .ok (.aastore, 1) := by decide +kernel
theorem dX11_init_182 : decode cX11_init 182 = .ok (.iinc 1 1, 3) := by decide +kernel
theorem dX11_init_185 : decode cX11_init 185 = .ok (.goto (-21), 3) := by decide +kernel
theorem dX11_init_188 : decode cX11_init 188 = .ok (.aload_n 0, 1) := by decide +kernel
theorem dX11_init_189 : decode cX11_init 189 = .ok (.getfield 32, 3) := by decide +kernel
theorem dX11_init_192 : decode cX11_init 192 = .ok (.iconst 0, 1) := by decide +kernel
theorem dX11_init_193 : decode cX11_init 193 = .ok (.new 30, 3) := by decide +kernel
theorem dX11_init_196 : decode cX11_init 196 = .ok (.dup, 1) := by decide +kernel
theorem dX11_init_197 : decode cX11_init 197 = .ok (.invokespecial 77, 3) := by decide +kernel
theorem dX11_init_200 : decode cX11_init 200 = .ok (.aastore, 1) := by decide +kernel
theorem dX11_init_201 : decode cX11_init 201 = .ok (.aload_n 0, 1) := by decide +kernel
theorem dX11_init_202 : decode cX11_init 202 = .ok (.getfield 32, 3) := by decide +kernel
theorem dX11_init_205 : decode cX11_init 205 = .ok (.iconst 1, 1) := by decide +kernel
theorem dX11_init_206 : decode cX11_init 206 = .ok (.new 78, 3) := by decide +kernel
theorem dX11_init_209 : decode cX11_init 209 = .ok (.dup, 1) := by decide +kernel
theorem dX11_init_210 : decode cX11_init 210 = .ok (.invokespecial 80, 3) := by decide +kernel
theorem dX11_init_213 : decode cX11_init 213 = .ok (.aastore, 1) := by decide +kernel
theorem dX11_init_214 : decode cX11_init 214 = .ok (.aload_n 0, 1) := by decide +kernel
theorem dX11_init_215 : decode cX11_init 215 = .ok (.getfield 32, 3) := by decide +kernel
theorem dX11_init_218 : decode cX11_init 218 = .ok (.iconst 2, 1) := by decide +kernel
theorem dX11_init_219 : decode cX11_init 219 = .ok (.new 81, 3) := by decide +kernel
theorem dX11_init_222 : decode cX11_init 222 = .ok (.dup, 1) := by decide +kernel
theorem dX11_init_223 : decode cX11_init 223 = .ok (.invokespecial 83, 3) := by decide +kernel
theorem dX11_init_226 : decode cX11_init 226 = .ok (.aastore, 1) := by decide +kernel
theorem dX11_init_227 : decode cX11_init 227 = .ok (.aload_n 0, 1) := by decide +kernel
theorem dX11_init_228 : decode cX11_init 228 = .ok (.getfield 32, 3) := by decide +kernel
theorem dX11_init_231 : decode cX11_init 231 = .ok (.iconst 3, 1) := by decide +kernel
theorem dX11_init_232 : decode cX11_init 232 = .ok (.new 84, 3) := by decide +kernel
theorem dX11_init_235 : decode cX11_init 235 = .ok (.dup, 1) := by decide +kernel
theorem dX11_init_236 : decode cX11_init 236 = .ok (.invokespecial 86, 3) := by decide +kernel
theorem dX11_init_239 : decode cX11_init 239 = .ok (.aastore, 1) := by decide +kernel
theorem dX11_init_240 : decode cX11_init 240 = .ok (.aload_n 0, 1) := by decide +kernel
theorem dX11_init_241 : decode cX11_init 241 = .ok (.getfield 32, 3) := by decide +kernel
theorem dX11_init_244 : decode cX11_init 244 = .ok (.iconst 4, 1) := by decide +kernel
theorem dX11_init_245 : decode cX11_init 245 = .ok (.new 87, 3) := by decide +kernel
theorem dX11_init_248 : decode cX11_init 248 = .ok (.dup, 1) := by decide +kernel
theorem dX11_init_249 : decode cX11_init 249 = .ok (.invokespecial 89, 3) := by decide +kernel
theorem dX11_init_252 : decode cX11_init 252 = .ok (.aastore, 1) := by decide +kernel
theorem dX11_init_253 : decode cX11_init 253 = .ok (.aload_n 0, 1) := by decide +kernel
theorem dX11_init_254 : decode cX11_init 254 = .ok (.getfield 32, 3) := by decide +kernel
theorem dX11_init_257 : decode cX11_init 257 = .ok (.iconst 5, 1) := by decide +kernel
theorem dX11_init_258 : decode cX11_init 258 = .ok (.new 90, 3) := by decide +kernel
theorem dX11_init_261 : decode cX11_init 261 = .ok (.dup, 1) := by decide +kernel
theorem dX11_init_262 : decode cX11_init 262 = .ok (.invokespecial 92, 3) := by decide +kernel
theorem dX11_init_265 : decode cX11_init 265 = .ok (.aastore, 1) := by decide +kernel
theorem dX11_init_266 : decode cX11_init 266 = .ok (.return_, 1) := by decide +kernel
theorem dX11_type_0 : decode cX11_type 0 = .ok (.iload_n 1, 1) := by decide +kernel
theorem dX11_type_1 : decode cX11_type 1 = .ok (.ifCond .lt 10, 3) := by decide +kernel
theorem dX11_type_4 : decode cX11_type 4 = .ok (.iload_n 1, 1) := by decide +kernel
theorem dX11_type_5 : decode cX11_type 5 = .ok (.sipush 255, 3) := by decide +kernel
theorem dX11_type_8 : decode cX11_type 8 = .ok (.if_icmp .le 5, 3) := by decide +kernel
theorem dX11_type_11 : decode cX11_type 11 = .ok (.iconst (-1), 1) := by decide +kernel
theorem dX11_type_12 : decode cX11_type 12 = .ok (.ireturn, 1) := by decide +kernel
theorem dX11_type_13 : decode cX11_type 13 = .ok (.aload_n 0, 1) := by decide +kernel
theorem dX11_type_14 : decode cX11_type 14 = .ok (.getfield 10, 3) := by decide +kernel
theorem dX11_type_17 : decode cX11_type 17 = .ok (.getfield 93, 3) := by decide +kernel
theorem dX11_type_20 : decode cX11_type 20 = .ok (.sipush 140, 3) := by decide +kernel
theorem dX11_type_23 : decode cX11_type 23 = .ok (.if_icmp .lt 6, 3) := by decide +kernel
theorem dX11_type_26 : decode cX11_type 26 = .ok (.bipush (-3), 2) := by decide +kernel
theorem dX11_type_28 : decode cX11_type 28 = .ok (.ireturn, 1) := by decide +kernel
theorem dX11_type_29 : decode cX11_type 29 = .ok (.aload_n 0, 1) := by decide +kernel
theorem dX11_type_30 : decode cX11_type 30 = .ok (.getfield 10, 3) := by decide +kernel
theorem dX11_type_33 : decode cX11_type 33 = .ok (.getfield 97, 3) := by decide +kernel
theorem dX11_type_36 : decode cX11_type 36 = .ok (.aload_n 0, 1) := by decide +kernel
theorem dX11_type_37 : decode cX11_type 37 = .ok (.getfield 10, 3) := by decide +kernel
theorem dX11_type_40 : decode cX11_type 40 = .ok (.getfield 93, 3) := by decide +kernel
theorem dX11_type_43 : decode cX11_type 43 = .ok (.iload_n 1, 1) := by decide +kernel
theorem dX11_type_44 : decode cX11_type 44 = .ok (.i2c, 1) := by decide +kernel
theorem dX11_type_45 : decode cX11_type 45 = .ok (.castore, 1) := by decide +kernel
theorem dX11_type_46 : decode cX11_type 46 = .ok (.aload_n 0, 1) := by decide +kernel
theorem dX11_type_47 : decode cX11_type 47 = .ok (.getfield 10, 3) := by decide +kernel
theorem dX11_type_50 : decode cX11_type 50 = .ok (.dup, 1) := by decide +kernel
theorem dX11_type_51 : decode cX11_type 51 = .ok (.getfield 93, 3) := by decide +kernel
theorem dX11_type_54 : decode cX11_type 54 = .ok (.iconst 1, 1) := by decide +kernel
theorem dX11_type_55 : decode cX11_type 55 = .ok (.iadd, 1) := by decide +kernel
theorem dX11_type_56 : decode cX11_type 56 = .ok (.putfield 93, 3) := by decide +kernel
theorem dX11_type_59 : decode cX11_type 59 = .ok (.aload_n 0, 1) := by decide +kernel
theorem dX11_type_60 : decode cX11_type 60 = .ok (.getfield 10, 3) := by decide +kernel
theorem dX11_type_63 : decode cX11_type 63 = .ok (.getfield 93, 3) := by decide +kernel
theorem dX11_type_66 : decode cX11_type 66 = .ok (.ireturn, 1) := by decide +kernel
theorem dX11_clear_0 : decode cX11_clear 0 = .ok (.aload_n 0, 1) := by decide +kernel
theorem dX11_clear_1 : decode cX11_clear 1 = .ok (.getfield 10, 3) := by decide +kernel
theorem dX11_clear_4 : decode cX11_clear 4 = .ok (.getfield 93, 3) := by decide +kernel
theorem dX11_clear_7 : decode cX11_clear 7 = .ok (.istore_n 1, 1) := by decide +kernel
theorem dX11_clear_8 : decode cX11_clear 8 = .ok (.aload_n 0, 1) := by decide +kernel
theorem dX11_clear_9 : decode cX11_clear 9 = .ok (.getfield 10, 3) := by decide +kernel
theorem dX11_clear_12 : decode cX11_clear 12 = .ok (.iconst 0, 1) := by decide +kernel
theorem dX11_clear_13 : decode cX11_clear 13 = .ok (.putfield 93, 3) := by decide +kernel
theorem dX11_clear_16 : decode cX11_clear 16 = .ok (.iload_n 1, 1) := by decide +kernel
theorem dX11_clear_17 : decode cX11_clear 17 = .ok (.ireturn, 1) := by decide +kernel
theorem dX11_table_0 : decode cX11_table 0 = .ok (.aload_n 0, 1) := by decide +kernel
theorem dX11_table_1 : decode cX11_table 1 = .ok (.getfield 10, 3) := by decide +kernel
theorem dX11_table_4 : decode cX11_table 4 = .ok (.invokevirtual 101, 3) := by decide +kernel
theorem dX11_table_7 : decode cX11_table 7 = .ok (.istore_n 1, 1) := by decide +kernel
theorem dX11_table_8 : decode cX11_table 8 = .ok (.iload_n 1, 1) := by decide +kernel
theorem dX11_table_9 : decode cX11_table 9 = .ok (.ifCond .ge 5, 3) := by decide +kernel
theorem dX11_table_12 : decode cX11_table 12 = .ok (.iload_n 1, 1) := by decide +kernel
theorem dX11_table_13 : decode cX11_table 13 = .ok (.ireturn, 1) := by decide +kernel
theorem dX11_table_14 : decode cX11_table 14 = .ok (.aload_n 0, 1) := by decide +kernel
theorem dX11_table_15 : decode cX11_table 15 = .ok (.getfield 10, 3) := by decide +kernel
theorem dX11_table_18 : decode cX11_table 18 = .ok (.iconst 0, 1) := by decide +kernel
theorem dX11_table_19 : decode cX11_table 19 = .ok (.putfield 93, 3) := by decide +kernel
theorem dX11_table_22 : decode cX11_table 22 = .ok (.aload_n 0, 1) := by decide +kernel
theorem dX11_table_23 : decode cX11_table 23 = .ok (.aload_n 0, 1) := by decide +kernel
theorem dX11_table_24 : decode cX11_table 24 = .ok (.getfield 10, 3) := by decide +kernel
theorem dX11_table_27 : decode cX11_table 27 = .ok (.aload_n 0, 1) := by decide +kernel
theorem dX11_table_28 : decode cX11_table 28 = .ok (.getfield 39, 3) := by decide +kernel
theorem dX11_table_31 : decode cX11_table 31 = .ok (.invokevirtual 105, 3) := by decide +kernel
theorem dX11_table_34 : decode cX11_table 34 = .ok (.putfield 39, 3) := by decide +kernel
theorem dX11_table_37 : decode cX11_table 37 = .ok (.aload_n 0, 1) := by decide +kernel
theorem dX11_table_38 : decode cX11_table 38 = .ok (.getfield 46, 3) := by decide +kernel
theorem dX11_table_41 : decode cX11_table 41 = .ok (.aload_n 0, 1) := by decide +kernel
theorem dX11_table_42 : decode cX11_table 42 = .ok (.getfield 39, 3) := by decide +kernel
theorem dX11_table_45 : decode cX11_table 45 = .ok (.getfield 109, 3) := by decide +kernel
theorem dX11_table_48 : decode cX11_table 48 = .ok (.invokevirtual 112, 3) := by decide +kernel
theorem dX11_table_51 : decode cX11_table 51 = .ok (.aload_n 0, 1) := by decide +kernel
theorem dX11_table_52 : decode cX11_table 52 = .ok (.iconst 0, 1) := by decide +kernel
theorem dX11_table_53 : decode cX11_table 53 = .ok (.putfield 116, 3) := by decide +kernel
theorem dX11_table_56 : decode cX11_table 56 = .ok (.aload_n 0, 1) := by decide +kernel
theorem dX11_table_57 : decode cX11_table 57 = .ok (.iconst 0, 1) := by decide +kernel
theorem dX11_table_58 : decode cX11_table 58 = .ok (.putfield 119, 3) := by decide +kernel
theorem dX11_table_61 : decode cX11_table 61 = .ok (.iconst 0, 1) := by decide +kernel
theorem dX11_table_62 : decode cX11_table 62 = .ok (.istore_n 2, 1) := by decide +kernel
theorem dX11_table_63 : decode cX11_table 63 = .ok (.iload_n 2, 1) := by decide +kernel
theorem dX11_table_64 : decode cX11_table 64 = .ok (.iconst 2, 1) := by decide +kernel
theorem dX11_table_65 : decode cX11_table 65 = .ok (.if_icmp .ge 16, 3) := by decide +kernel
theorem dX11_table_68 : decode cX11_table 68 = .ok (.aload_n 0, 1) := by decide +kernel
theorem dX11_table_69 : decode cX11_table 69 = .ok (.getfield 60, 3) := by decide +kernel
theorem dX11_table_72 : decode cX11_table 72 = .ok (.iload_n 2, 1) := by decide +kernel
theorem dX11_table_73 : decode cX11_table 73 = .ok (.iconst 0, 1) := by decide +kernel
theorem dX11_table_74 : decode cX11_table 74 = .ok (.bastore, 1) := by decide +kernel
theorem dX11_table_75 : decode cX11_table 75 = .ok (.iinc 2 1, 3) := by decide +kernel
theorem dX11_table_78 : decode cX11_table 78 = .ok (.goto (-15), 3) := by decide +kernel
theorem dX11_table_81 : decode cX11_table 81 = .ok (.iload_n 1, 1) := by decide +kernel
theorem dX11_table_82 : decode cX11_table 82 = .ok (.ireturn, 1) := by decide +kernel
theorem dX11_guest_0 : decode cX11_guest 0 = .ok (.aload_n 0, 1) := by decide +kernel
theorem dX11_guest_1 : decode cX11_guest 1 = .ok (.iload_n 1, 1) := by decide +kernel
theorem dX11_guest_2 : decode cX11_guest 2 = .ok (.invokevirtual 122, 3) := by decide +kernel
theorem dX11_guest_5 : decode cX11_guest 5 = .ok (.ifCond .ne 5, 3) := by decide +kernel
theorem dX11_guest_8 : decode cX11_guest 8 = .ok (.iconst (-1), 1) := by decide +kernel
theorem dX11_guest_9 : decode cX11_guest 9 = .ok (.ireturn, 1) := by decide +kernel
theorem dX11_guest_10 : decode cX11_guest 10 = .ok (.iload_n 2, 1) := by decide +kernel
theorem dX11_guest_11 : decode cX11_guest 11 = .ok (.tableswitch 103 0 5 #[37, 47, 57, 67, 77, 90], 37) := by decide +kernel
theorem dX11_guest_48 : decode cX11_guest 48 = .ok (.aload_n 0, 1) := by decide +kernel
theorem dX11_guest_49 : decode cX11_guest 49 = .ok (.getfield 46, 3) := by decide +kernel
theorem dX11_guest_52 : decode cX11_guest 52 = .ok (.getfield 126, 3) := by decide +kernel
theorem dX11_guest_55 : decode cX11_guest 55 = .ok (.iload_n 1, 1) := by decide +kernel
theorem dX11_guest_56 : decode cX11_guest 56 = .ok (.iaload, 1) := by decide +kernel
theorem dX11_guest_57 : decode cX11_guest 57 = .ok (.ireturn, 1) := by decide +kernel
theorem dX11_guest_58 : decode cX11_guest 58 = .ok (.aload_n 0, 1) := by decide +kernel
theorem dX11_guest_59 : decode cX11_guest 59 = .ok (.getfield 39, 3) := by decide +kernel
theorem dX11_guest_62 : decode cX11_guest 62 = .ok (.getfield 129, 3) := by decide +kernel
theorem dX11_guest_65 : decode cX11_guest 65 = .ok (.iload_n 1, 1) := by decide +kernel
theorem dX11_guest_66 : decode cX11_guest 66 = .ok (.iaload, 1) := by decide +kernel
theorem dX11_guest_67 : decode cX11_guest 67 = .ok (.ireturn, 1) := by decide +kernel
theorem dX11_guest_68 : decode cX11_guest 68 = .ok (.aload_n 0, 1) := by decide +kernel
theorem dX11_guest_69 : decode cX11_guest 69 = .ok (.getfield 39, 3) := by decide +kernel
theorem dX11_guest_72 : decode cX11_guest 72 = .ok (.getfield 132, 3) := by decide +kernel
theorem dX11_guest_75 : decode cX11_guest 75 = .ok (.iload_n 1, 1) := by decide +kernel
theorem dX11_guest_76 : decode cX11_guest 76 = .ok (.iaload, 1) := by decide +kernel
theorem dX11_guest_77 : decode cX11_guest 77 = .ok (.ireturn, 1) := by decide +kernel
theorem dX11_guest_78 : decode cX11_guest 78 = .ok (.aload_n 0, 1) := by decide +kernel
theorem dX11_guest_79 : decode cX11_guest 79 = .ok (.getfield 46, 3) := by decide +kernel
theorem dX11_guest_82 : decode cX11_guest 82 = .ok (.getfield 135, 3) := by decide +kernel
theorem dX11_guest_85 : decode cX11_guest 85 = .ok (.iload_n 1, 1) := by decide +kernel
theorem dX11_guest_86 : decode cX11_guest 86 = .ok (.iaload, 1) := by decide +kernel
theorem dX11_guest_87 : decode cX11_guest 87 = .ok (.ireturn, 1) := by decide +kernel
theorem dX11_guest_88 : decode cX11_guest 88 = .ok (.aload_n 0, 1) := by decide +kernel
theorem dX11_guest_89 : decode cX11_guest 89 = .ok (.getfield 39, 3) := by decide +kernel
theorem dX11_guest_92 : decode cX11_guest 92 = .ok (.aload_n 0, 1) := by decide +kernel
theorem dX11_guest_93 : decode cX11_guest 93 = .ok (.getfield 46, 3) := by decide +kernel
theorem dX11_guest_96 : decode cX11_guest 96 = .ok (.iload_n 1, 1) := by decide +kernel
theorem dX11_guest_97 : decode cX11_guest 97 = .ok (.invokevirtual 138, 3) := by decide +kernel
theorem dX11_guest_100 : decode cX11_guest 100 = .ok (.ireturn, 1) := by decide +kernel
theorem dX11_guest_101 : decode cX11_guest 101 = .ok (.aload_n 0, 1) := by decide +kernel
theorem dX11_guest_102 : decode cX11_guest 102 = .ok (.getfield 39, 3) := by decide +kernel
theorem dX11_guest_105 : decode cX11_guest 105 = .ok (.aload_n 0, 1) := by decide +kernel
theorem dX11_guest_106 : decode cX11_guest 106 = .ok (.getfield 46, 3) := by decide +kernel
theorem dX11_guest_109 : decode cX11_guest 109 = .ok (.iload_n 1, 1) := by decide +kernel
theorem dX11_guest_110 : decode cX11_guest 110 = .ok (.invokevirtual 142, 3) := by decide +kernel
theorem dX11_guest_113 : decode cX11_guest 113 = .ok (.ireturn, 1) := by decide +kernel
theorem dX11_guest_114 : decode cX11_guest 114 = .ok (.iconst (-1), 1) := by decide +kernel
theorem dX11_guest_115 : decode cX11_guest 115 = .ok (.ireturn, 1) := by decide +kernel
theorem dX11_dish_0 : decode cX11_dish 0 = .ok (.aload_n 0, 1) := by decide +kernel
theorem dX11_dish_1 : decode cX11_dish 1 = .ok (.iload_n 1, 1) := by decide +kernel
theorem dX11_dish_2 : decode cX11_dish 2 = .ok (.invokevirtual 145, 3) := by decide +kernel
theorem dX11_dish_5 : decode cX11_dish 5 = .ok (.ifCond .ne 5, 3) := by decide +kernel
theorem dX11_dish_8 : decode cX11_dish 8 = .ok (.iconst (-1), 1) := by decide +kernel
theorem dX11_dish_9 : decode cX11_dish 9 = .ok (.ireturn, 1) := by decide +kernel
theorem dX11_dish_10 : decode cX11_dish 10 = .ok (.iload_n 2, 1) := by decide +kernel
theorem dX11_dish_11 : decode cX11_dish 11 = .ok (.tableswitch 96 0 4 #[33, 43, 53, 63, 76], 33) := by decide +kernel
theorem dX11_dish_44 : decode cX11_dish 44 = .ok (.aload_n 0, 1) := by decide +kernel
theorem dX11_dish_45 : decode cX11_dish 45 = .ok (.getfield 46, 3) := by decide +kernel
theorem dX11_dish_48 : decode cX11_dish 48 = .ok (.getfield 148, 3) := by decide +kernel
theorem dX11_dish_51 : decode cX11_dish 51 = .ok (.iload_n 1, 1) := by decide +kernel
theorem dX11_dish_52 : decode cX11_dish 52 = .ok (.iaload, 1) := by decide +kernel
theorem dX11_dish_53 : decode cX11_dish 53 = .ok (.ireturn, 1) := by decide +kernel
theorem dX11_dish_54 : decode cX11_dish 54 = .ok (.aload_n 0, 1) := by decide +kernel
theorem dX11_dish_55 : decode cX11_dish 55 = .ok (.getfield 46, 3) := by decide +kernel
theorem dX11_dish_58 : decode cX11_dish 58 = .ok (.getfield 151, 3) := by decide +kernel
theorem dX11_dish_61 : decode cX11_dish 61 = .ok (.iload_n 1, 1) := by decide +kernel
theorem dX11_dish_62 : decode cX11_dish 62 = .ok (.iaload, 1) := by decide +kernel
theorem dX11_dish_63 : decode cX11_dish 63 = .ok (.ireturn, 1) := by decide +kernel
theorem dX11_dish_64 : decode cX11_dish 64 = .ok (.aload_n 0, 1) := by decide +kernel
theorem dX11_dish_65 : decode cX11_dish 65 = .ok (.getfield 39, 3) := by decide +kernel
theorem dX11_dish_68 : decode cX11_dish 68 = .ok (.getfield 154, 3) := by decide +kernel
theorem dX11_dish_71 : decode cX11_dish 71 = .ok (.iload_n 1, 1) := by decide +kernel
theorem dX11_dish_72 : decode cX11_dish 72 = .ok (.iaload, 1) := by decide +kernel
theorem dX11_dish_73 : decode cX11_dish 73 = .ok (.ireturn, 1) := by decide +kernel
theorem dX11_dish_74 : decode cX11_dish 74 = .ok (.aload_n 0, 1) := by decide +kernel
theorem dX11_dish_75 : decode cX11_dish 75 = .ok (.getfield 39, 3) := by decide +kernel
theorem dX11_dish_78 : decode cX11_dish 78 = .ok (.aload_n 0, 1) := by decide +kernel
theorem dX11_dish_79 : decode cX11_dish 79 = .ok (.getfield 46, 3) := by decide +kernel
theorem dX11_dish_82 : decode cX11_dish 82 = .ok (.iload_n 1, 1) := by decide +kernel
theorem dX11_dish_83 : decode cX11_dish 83 = .ok (.invokevirtual 157, 3) := by decide +kernel
theorem dX11_dish_86 : decode cX11_dish 86 = .ok (.ireturn, 1) := by decide +kernel
theorem dX11_dish_87 : decode cX11_dish 87 = .ok (.aload_n 0, 1) := by decide +kernel
theorem dX11_dish_88 : decode cX11_dish 88 = .ok (.getfield 39, 3) := by decide +kernel
theorem dX11_dish_91 : decode cX11_dish 91 = .ok (.aload_n 0, 1) := by decide +kernel
theorem dX11_dish_92 : decode cX11_dish 92 = .ok (.getfield 46, 3) := by decide +kernel
theorem dX11_dish_95 : decode cX11_dish 95 = .ok (.iload_n 1, 1) := by decide +kernel
theorem dX11_dish_96 : decode cX11_dish 96 = .ok (.aload_n 0, 1) := by decide +kernel
theorem dX11_dish_97 : decode cX11_dish 97 = .ok (.getfield 46, 3) := by decide +kernel
theorem dX11_dish_100 : decode cX11_dish 100 = .ok (.getfield 160, 3) := by decide +kernel
theorem dX11_dish_103 : decode cX11_dish 103 = .ok (.invokevirtual 163, 3) := by decide +kernel
theorem dX11_dish_106 : decode cX11_dish 106 = .ok (.ireturn, 1) := by decide +kernel
theorem dX11_dish_107 : decode cX11_dish 107 = .ok (.iconst (-1), 1) := by decide +kernel
theorem dX11_dish_108 : decode cX11_dish 108 = .ok (.ireturn, 1) := by decide +kernel
theorem dX11_now_0 : decode cX11_now 0 = .ok (.iload_n 1, 1) := by decide +kernel
theorem dX11_now_1 : decode cX11_now 1 = .ok (.tableswitch 90 0 5 #[39, 47, 52, 64, 69, 85], 39) := by decide +kernel
theorem dX11_now_40 : decode cX11_now 40 = .ok (.aload_n 0, 1) := by decide +kernel
theorem dX11_now_41 : decode cX11_now 41 = .ok (.getfield 46, 3) := by decide +kernel
theorem dX11_now_44 : decode cX11_now 44 = .ok (.getfield 160, 3) := by decide +kernel
theorem dX11_now_47 : decode cX11_now 47 = .ok (.ireturn, 1) := by decide +kernel
theorem dX11_now_48 : decode cX11_now 48 = .ok (.aload_n 0, 1) := by decide +kernel
theorem dX11_now_49 : decode cX11_now 49 = .ok (.invokevirtual 167, 3) := by decide +kernel
theorem dX11_now_52 : decode cX11_now 52 = .ok (.ireturn, 1) := by decide +kernel
theorem dX11_now_53 : decode cX11_now 53 = .ok (.aload_n 0, 1) := by decide +kernel
theorem dX11_now_54 : decode cX11_now 54 = .ok (.getfield 39, 3) := by decide +kernel
theorem dX11_now_57 : decode cX11_now 57 = .ok (.aload_n 0, 1) := by decide +kernel
theorem dX11_now_58 : decode cX11_now 58 = .ok (.getfield 46, 3) := by decide +kernel
theorem dX11_now_61 : decode cX11_now 61 = .ok (.invokevirtual 170, 3) := by decide +kernel
theorem dX11_now_64 : decode cX11_now 64 = .ok (.ireturn, 1) := by decide +kernel
theorem dX11_now_65 : decode cX11_now 65 = .ok (.aload_n 0, 1) := by decide +kernel
theorem dX11_now_66 : decode cX11_now 66 = .ok (.invokevirtual 174, 3) := by decide +kernel
theorem dX11_now_69 : decode cX11_now 69 = .ok (.ireturn, 1) := by decide +kernel
theorem dX11_now_70 : decode cX11_now 70 = .ok (.aload_n 0, 1) := by decide +kernel
theorem dX11_now_71 : decode cX11_now 71 = .ok (.getfield 19, 3) := by decide +kernel
theorem dX11_now_74 : decode cX11_now 74 = .ok (.aload_n 0, 1) := by decide +kernel
theorem dX11_now_75 : decode cX11_now 75 = .ok (.getfield 39, 3) := by decide +kernel
theorem dX11_now_78 : decode cX11_now 78 = .ok (.aload_n 0, 1) := by decide +kernel
theorem dX11_now_79 : decode cX11_now 79 = .ok (.getfield 46, 3) := by decide +kernel
theorem dX11_now_82 : decode cX11_now 82 = .ok (.invokevirtual 177, 3) := by decide +kernel
theorem dX11_now_85 : decode cX11_now 85 = .ok (.ireturn, 1) := by decide +kernel
theorem dX11_now_86 : decode cX11_now 86 = .ok (.aload_n 0, 1) := by decide +kernel
theorem dX11_now_87 : decode cX11_now 87 = .ok (.getfield 116, 3) := by decide +kernel
theorem dX11_now_90 : decode cX11_now 90 = .ok (.ireturn, 1) := by decide +kernel
theorem dX11_now_91 : decode cX11_now 91 = .ok (.iconst (-1), 1) := by decide +kernel
theorem dX11_now_92 : decode cX11_now 92 = .ok (.ireturn, 1) := by decide +kernel
theorem dX11_spins_0 : decode cX11_spins 0 = .ok (.iload_n 1, 1) := by decide +kernel
theorem dX11_spins_1 : decode cX11_spins 1 = .ok (.iconst 1, 1) := by decide +kernel
theorem dX11_spins_2 : decode cX11_spins 2 = .ok (.if_icmp .lt 21, 3) := by decide +kernel
theorem dX11_spins_5 : decode cX11_spins 5 = .ok (.iload_n 1, 1) := by decide +kernel
theorem dX11_spins_6 : decode cX11_spins 6 = .ok (.aload_n 0, 1) := by decide +kernel
theorem dX11_spins_7 : decode cX11_spins 7 = .ok (.getfield 39, 3) := by decide +kernel
theorem dX11_spins_10 : decode cX11_spins 10 = .ok (.getfield 181, 3) := by decide +kernel
theorem dX11_spins_13 : decode cX11_spins 13 = .ok (.if_icmp .ge 10, 3) := by decide +kernel
theorem dX11_spins_16 : decode cX11_spins 16 = .ok (.iload_n 2, 1) := by decide +kernel
theorem dX11_spins_17 : decode cX11_spins 17 = .ok (.invokestatic 184, 3) := by decide +kernel
theorem dX11_spins_20 : decode cX11_spins 20 = .ok (.ifCond .ne 5, 3) := by decide +kernel
theorem dX11_spins_23 : decode cX11_spins 23 = .ok (.iconst (-1), 1) := by decide +kernel
theorem dX11_spins_24 : decode cX11_spins 24 = .ok (.ireturn, 1) := by decide +kernel
theorem dX11_spins_25 : decode cX11_spins 25 = .ok (.aload_n 0, 1) := by decide +kernel
theorem dX11_spins_26 : decode cX11_spins 26 = .ok (.invokevirtual 187, 3) := by decide +kernel
theorem dX11_spins_29 : decode cX11_spins 29 = .ok (.aload_n 0, 1) := by decide +kernel
theorem dX11_spins_30 : decode cX11_spins 30 = .ok (.getfield 46, 3) := by decide +kernel
theorem dX11_spins_33 : decode cX11_spins 33 = .ok (.aload_n 0, 1) := by decide +kernel
theorem dX11_spins_34 : decode cX11_spins 34 = .ok (.getfield 39, 3) := by decide +kernel
theorem dX11_spins_37 : decode cX11_spins 37 = .ok (.iload_n 2, 1) := by decide +kernel
theorem dX11_spins_38 : decode cX11_spins 38 = .ok (.ifCond .ne 15, 3) := by decide +kernel
theorem dX11_spins_41 : decode cX11_spins 41 = .ok (.aload_n 0, 1) := by decide +kernel
theorem dX11_spins_42 : decode cX11_spins 42 = .ok (.getfield 46, 3) := by decide +kernel
theorem dX11_spins_45 : decode cX11_spins 45 = .ok (.getfield 160, 3) := by decide +kernel
theorem dX11_spins_48 : decode cX11_spins 48 = .ok (.iload_n 1, 1) := by decide +kernel
theorem dX11_spins_49 : decode cX11_spins 49 = .ok (.iadd, 1) := by decide +kernel
theorem dX11_spins_50 : decode cX11_spins 50 = .ok (.goto 12, 3) := by decide +kernel
theorem dX11_spins_53 : decode cX11_spins 53 = .ok (.aload_n 0, 1) := by decide +kernel
theorem dX11_spins_54 : decode cX11_spins 54 = .ok (.getfield 46, 3) := by decide +kernel
theorem dX11_spins_57 : decode cX11_spins 57 = .ok (.getfield 160, 3) := by decide +kernel
theorem dX11_spins_60 : decode cX11_spins 60 = .ok (.iload_n 1, 1) := by decide +kernel
theorem dX11_spins_61 : decode cX11_spins 61 = .ok (.isub, 1) := by decide +kernel
theorem dX11_spins_62 : decode cX11_spins 62 = .ok (.invokevirtual 190, 3) := by decide +kernel
theorem dX11_spins_65 : decode cX11_spins 65 = .ok (.putfield 160, 3) := by decide +kernel
theorem dX11_spins_68 : decode cX11_spins 68 = .ok (.iload_n 1, 1) := by decide +kernel
theorem dX11_spins_69 : decode cX11_spins 69 = .ok (.iconst 3, 1) := by decide +kernel
theorem dX11_spins_70 : decode cX11_spins 70 = .ok (.if_icmp .lt 10, 3) := by decide +kernel
theorem dX11_spins_73 : decode cX11_spins 73 = .ok (.aload_n 0, 1) := by decide +kernel
theorem dX11_spins_74 : decode cX11_spins 74 = .ok (.invokevirtual 194, 3) := by decide +kernel
theorem dX11_spins_77 : decode cX11_spins 77 = .ok (.goto 4, 3) := by decide +kernel
theorem dX11_spins_80 : decode cX11_spins 80 = .ok (.iconst 0, 1) := by decide +kernel
theorem dX11_spins_81 : decode cX11_spins 81 = .ok (.ireturn, 1) := by decide +kernel
theorem dX11_takes_0 : decode cX11_takes 0 = .ok (.aload_n 0, 1) := by decide +kernel
theorem dX11_takes_1 : decode cX11_takes 1 = .ok (.iload_n 1, 1) := by decide +kernel
theorem dX11_takes_2 : decode cX11_takes 2 = .ok (.invokevirtual 122, 3) := by decide +kernel
theorem dX11_takes_5 : decode cX11_takes 5 = .ok (.ifCond .eq 11, 3) := by decide +kernel
theorem dX11_takes_8 : decode cX11_takes 8 = .ok (.aload_n 0, 1) := by decide +kernel
theorem dX11_takes_9 : decode cX11_takes 9 = .ok (.iload_n 2, 1) := by decide +kernel
theorem dX11_takes_10 : decode cX11_takes 10 = .ok (.invokevirtual 145, 3) := by decide +kernel
theorem dX11_takes_13 : decode cX11_takes 13 = .ok (.ifCond .ne 5, 3) := by decide +kernel
theorem dX11_takes_16 : decode cX11_takes 16 = .ok (.iconst (-1), 1) := by decide +kernel
theorem dX11_takes_17 : decode cX11_takes 17 = .ok (.ireturn, 1) := by decide +kernel
theorem dX11_takes_18 : decode cX11_takes 18 = .ok (.aload_n 0, 1) := by decide +kernel
theorem dX11_takes_19 : decode cX11_takes 19 = .ok (.getfield 39, 3) := by decide +kernel
theorem dX11_takes_22 : decode cX11_takes 22 = .ok (.aload_n 0, 1) := by decide +kernel
theorem dX11_takes_23 : decode cX11_takes 23 = .ok (.getfield 46, 3) := by decide +kernel
theorem dX11_takes_26 : decode cX11_takes 26 = .ok (.iload_n 1, 1) := by decide +kernel
theorem dX11_takes_27 : decode cX11_takes 27 = .ok (.iload_n 2, 1) := by decide +kernel
theorem dX11_takes_28 : decode cX11_takes 28 = .ok (.aload_n 0, 1) := by decide +kernel
theorem dX11_takes_29 : decode cX11_takes 29 = .ok (.getfield 46, 3) := by decide +kernel
theorem dX11_takes_32 : decode cX11_takes 32 = .ok (.getfield 160, 3) := by decide +kernel
theorem dX11_takes_35 : decode cX11_takes 35 = .ok (.invokevirtual 197, 3) := by decide +kernel
theorem dX11_takes_38 : decode cX11_takes 38 = .ok (.ifCond .eq 16, 3) := by decide +kernel
theorem dX11_takes_41 : decode cX11_takes 41 = .ok (.aload_n 0, 1) := by decide +kernel
theorem dX11_takes_42 : decode cX11_takes 42 = .ok (.getfield 46, 3) := by decide +kernel
theorem dX11_takes_45 : decode cX11_takes 45 = .ok (.getfield 151, 3) := by decide +kernel
theorem dX11_takes_48 : decode cX11_takes 48 = .ok (.iload_n 2, 1) := by decide +kernel
theorem dX11_takes_49 : decode cX11_takes 49 = .ok (.iaload, 1) := by decide +kernel
theorem dX11_takes_50 : decode cX11_takes 50 = .ok (.iconst 1, 1) := by decide +kernel
theorem dX11_takes_51 : decode cX11_takes 51 = .ok (.if_icmp .ge 6, 3) := by decide +kernel
theorem dX11_takes_54 : decode cX11_takes 54 = .ok (.bipush (-2), 2) := by decide +kernel
theorem dX11_takes_56 : decode cX11_takes 56 = .ok (.ireturn, 1) := by decide +kernel
theorem dX11_takes_57 : decode cX11_takes 57 = .ok (.aload_n 0, 1) := by decide +kernel
theorem dX11_takes_58 : decode cX11_takes 58 = .ok (.invokevirtual 187, 3) := by decide +kernel
theorem dX11_takes_61 : decode cX11_takes 61 = .ok (.aload_n 0, 1) := by decide +kernel
theorem dX11_takes_62 : decode cX11_takes 62 = .ok (.getfield 46, 3) := by decide +kernel
theorem dX11_takes_65 : decode cX11_takes 65 = .ok (.getfield 151, 3) := by decide +kernel
theorem dX11_takes_68 : decode cX11_takes 68 = .ok (.iload_n 2, 1) := by decide +kernel
theorem dX11_takes_69 : decode cX11_takes 69 = .ok (.dup2, 1) := by decide +kernel
theorem dX11_takes_70 : decode cX11_takes 70 = .ok (.iaload, 1) := by decide +kernel
theorem dX11_takes_71 : decode cX11_takes 71 = .ok (.iconst 1, 1) := by decide +kernel
theorem dX11_takes_72 : decode cX11_takes 72 = .ok (.isub, 1) := by decide +kernel
theorem dX11_takes_73 : decode cX11_takes 73 = .ok (.iastore, 1) := by decide +kernel
theorem dX11_takes_74 : decode cX11_takes 74 = .ok (.aload_n 0, 1) := by decide +kernel
theorem dX11_takes_75 : decode cX11_takes 75 = .ok (.getfield 46, 3) := by decide +kernel
theorem dX11_takes_78 : decode cX11_takes 78 = .ok (.getfield 135, 3) := by decide +kernel
theorem dX11_takes_81 : decode cX11_takes 81 = .ok (.iload_n 1, 1) := by decide +kernel
theorem dX11_takes_82 : decode cX11_takes 82 = .ok (.dup2, 1) := by decide +kernel
theorem dX11_takes_83 : decode cX11_takes 83 = .ok (.iaload, 1) := by decide +kernel
theorem dX11_takes_84 : decode cX11_takes 84 = .ok (.iconst 1, 1) := by decide +kernel
theorem dX11_takes_85 : decode cX11_takes 85 = .ok (.iload_n 2, 1) := by decide +kernel
theorem dX11_takes_86 : decode cX11_takes 86 = .ok (.ishl, 1) := by decide +kernel
theorem dX11_takes_87 : decode cX11_takes 87 = .ok (.ior, 1) := by decide +kernel
theorem dX11_takes_88 : decode cX11_takes 88 = .ok (.iastore, 1) := by decide +kernel
theorem dX11_takes_89 : decode cX11_takes 89 = .ok (.aload_n 0, 1) := by decide +kernel
theorem dX11_takes_90 : decode cX11_takes 90 = .ok (.getfield 46, 3) := by decide +kernel
theorem dX11_takes_93 : decode cX11_takes 93 = .ok (.getfield 151, 3) := by decide +kernel
theorem dX11_takes_96 : decode cX11_takes 96 = .ok (.iload_n 2, 1) := by decide +kernel
theorem dX11_takes_97 : decode cX11_takes 97 = .ok (.iaload, 1) := by decide +kernel
theorem dX11_takes_98 : decode cX11_takes 98 = .ok (.ireturn, 1) := by decide +kernel
theorem dX11_moves_0 : decode cX11_moves 0 = .ok (.aload_n 0, 1) := by decide +kernel
theorem dX11_moves_1 : decode cX11_moves 1 = .ok (.iload_n 1, 1) := by decide +kernel
theorem dX11_moves_2 : decode cX11_moves 2 = .ok (.invokevirtual 145, 3) := by decide +kernel
theorem dX11_moves_5 : decode cX11_moves 5 = .ok (.ifCond .eq 11, 3) := by decide +kernel
theorem dX11_moves_8 : decode cX11_moves 8 = .ok (.aload_n 0, 1) := by decide +kernel
theorem dX11_moves_9 : decode cX11_moves 9 = .ok (.iload_n 2, 1) := by decide +kernel
theorem dX11_moves_10 : decode cX11_moves 10 = .ok (.invokevirtual 201, 3) := by decide +kernel
theorem dX11_moves_13 : decode cX11_moves 13 = .ok (.ifCond .ne 5, 3) := by decide +kernel
theorem dX11_moves_16 : decode cX11_moves 16 = .ok (.iconst (-1), 1) := by decide +kernel
theorem dX11_moves_17 : decode cX11_moves 17 = .ok (.ireturn, 1) := by decide +kernel
theorem dX11_moves_18 : decode cX11_moves 18 = .ok (.aload_n 0, 1) := by decide +kernel
theorem dX11_moves_19 : decode cX11_moves 19 = .ok (.iload_n 2, 1) := by decide +kernel
theorem dX11_moves_20 : decode cX11_moves 20 = .ok (.invokevirtual 204, 3) := by decide +kernel
theorem dX11_moves_23 : decode cX11_moves 23 = .ok (.ifCond .ne 6, 3) := by decide +kernel
theorem dX11_moves_26 : decode cX11_moves 26 = .ok (.bipush (-2), 2) := by decide +kernel
theorem dX11_moves_28 : decode cX11_moves 28 = .ok (.ireturn, 1) := by decide +kernel
theorem dX11_moves_29 : decode cX11_moves 29 = .ok (.aload_n 0, 1) := by decide +kernel
theorem dX11_moves_30 : decode cX11_moves 30 = .ok (.invokevirtual 187, 3) := by decide +kernel
theorem dX11_moves_33 : decode cX11_moves 33 = .ok (.aload_n 0, 1) := by decide +kernel
theorem dX11_moves_34 : decode cX11_moves 34 = .ok (.getfield 46, 3) := by decide +kernel
theorem dX11_moves_37 : decode cX11_moves 37 = .ok (.getfield 148, 3) := by decide +kernel
theorem dX11_moves_40 : decode cX11_moves 40 = .ok (.iload_n 1, 1) := by decide +kernel
theorem dX11_moves_41 : decode cX11_moves 41 = .ok (.iaload, 1) := by decide +kernel
theorem dX11_moves_42 : decode cX11_moves 42 = .ok (.istore_n 3, 1) := by decide +kernel
theorem dX11_moves_43 : decode cX11_moves 43 = .ok (.aload_n 0, 1) := by decide +kernel
theorem dX11_moves_44 : decode cX11_moves 44 = .ok (.getfield 46, 3) := by decide +kernel
theorem dX11_moves_47 : decode cX11_moves 47 = .ok (.getfield 148, 3) := by decide +kernel
theorem dX11_moves_50 : decode cX11_moves 50 = .ok (.iload_n 1, 1) := by decide +kernel
theorem dX11_moves_51 : decode cX11_moves 51 = .ok (.iload_n 2, 1) := by decide +kernel
theorem dX11_moves_52 : decode cX11_moves 52 = .ok (.iastore, 1) := by decide +kernel
theorem dX11_moves_53 : decode cX11_moves 53 = .ok (.iload_n 3, 1) := by decide +kernel
theorem dX11_moves_54 : decode cX11_moves 54 = .ok (.ireturn, 1) := by decide +kernel
theorem dX11_changes_0 : decode cX11_changes 0 = .ok (.aload_n 0, 1) := by decide +kernel
theorem dX11_changes_1 : decode cX11_changes 1 = .ok (.iload_n 1, 1) := by decide +kernel
theorem dX11_changes_2 : decode cX11_changes 2 = .ok (.invokevirtual 122, 3) := by decide +kernel
theorem dX11_changes_5 : decode cX11_changes 5 = .ok (.ifCond .eq 16, 3) := by decide +kernel
theorem dX11_changes_8 : decode cX11_changes 8 = .ok (.aload_n 0, 1) := by decide +kernel
theorem dX11_changes_9 : decode cX11_changes 9 = .ok (.iload_n 2, 1) := by decide +kernel
theorem dX11_changes_10 : decode cX11_changes 10 = .ok (.invokevirtual 122, 3) := by decide +kernel
theorem dX11_changes_13 : decode cX11_changes 13 = .ok (.ifCond .eq 8, 3) := by decide +kernel
theorem dX11_changes_16 : decode cX11_changes 16 = .ok (.iload_n 1, 1) := by decide +kernel
theorem dX11_changes_17 : decode cX11_changes 17 = .ok (.iload_n 2, 1) := by decide +kernel
theorem dX11_changes_18 : decode cX11_changes 18 = .ok (.if_icmp .ne 5, 3) := by decide +kernel
theorem dX11_changes_21 : decode cX11_changes 21 = .ok (.iconst (-1), 1) := by decide +kernel
theorem dX11_changes_22 : decode cX11_changes 22 = .ok (.ireturn, 1) := by decide +kernel
theorem dX11_changes_23 : decode cX11_changes 23 = .ok (.aload_n 0, 1) := by decide +kernel
theorem dX11_changes_24 : decode cX11_changes 24 = .ok (.invokevirtual 187, 3) := by decide +kernel
theorem dX11_changes_27 : decode cX11_changes 27 = .ok (.aload_n 0, 1) := by decide +kernel
theorem dX11_changes_28 : decode cX11_changes 28 = .ok (.getfield 46, 3) := by decide +kernel
theorem dX11_changes_31 : decode cX11_changes 31 = .ok (.iload_n 1, 1) := by decide +kernel
theorem dX11_changes_32 : decode cX11_changes 32 = .ok (.iload_n 2, 1) := by decide +kernel
theorem dX11_changes_33 : decode cX11_changes 33 = .ok (.invokevirtual 207, 3) := by decide +kernel
theorem dX11_changes_36 : decode cX11_changes 36 = .ok (.aload_n 0, 1) := by decide +kernel
theorem dX11_changes_37 : decode cX11_changes 37 = .ok (.getfield 46, 3) := by decide +kernel
theorem dX11_changes_40 : decode cX11_changes 40 = .ok (.getfield 126, 3) := by decide +kernel
theorem dX11_changes_43 : decode cX11_changes 43 = .ok (.iload_n 1, 1) := by decide +kernel
theorem dX11_changes_44 : decode cX11_changes 44 = .ok (.iaload, 1) := by decide +kernel
theorem dX11_changes_45 : decode cX11_changes 45 = .ok (.ireturn, 1) := by decide +kernel
theorem dX11_undo_0 : decode cX11_undo 0 = .ok (.aload_n 0, 1) := by decide +kernel
theorem dX11_undo_1 : decode cX11_undo 1 = .ok (.getfield 116, 3) := by decide +kernel
theorem dX11_undo_4 : decode cX11_undo 4 = .ok (.iconst 1, 1) := by decide +kernel
theorem dX11_undo_5 : decode cX11_undo 5 = .ok (.if_icmp .ge 6, 3) := by decide +kernel
theorem dX11_undo_8 : decode cX11_undo 8 = .ok (.bipush (-2), 2) := by decide +kernel
theorem dX11_undo_10 : decode cX11_undo 10 = .ok (.ireturn, 1) := by decide +kernel
theorem dX11_undo_11 : decode cX11_undo 11 = .ok (.aload_n 0, 1) := by decide +kernel
theorem dX11_undo_12 : decode cX11_undo 12 = .ok (.dup, 1) := by decide +kernel
theorem dX11_undo_13 : decode cX11_undo 13 = .ok (.getfield 116, 3) := by decide +kernel
theorem dX11_undo_16 : decode cX11_undo 16 = .ok (.iconst 1, 1) := by decide +kernel
theorem dX11_undo_17 : decode cX11_undo 17 = .ok (.isub, 1) := by decide +kernel
theorem dX11_undo_18 : decode cX11_undo 18 = .ok (.putfield 116, 3) := by decide +kernel
theorem dX11_undo_21 : decode cX11_undo 21 = .ok (.aload_n 0, 1) := by decide +kernel
theorem dX11_undo_22 : decode cX11_undo 22 = .ok (.getfield 46, 3) := by decide +kernel
theorem dX11_undo_25 : decode cX11_undo 25 = .ok (.aload_n 0, 1) := by decide +kernel
theorem dX11_undo_26 : decode cX11_undo 26 = .ok (.getfield 53, 3) := by decide +kernel
theorem dX11_undo_29 : decode cX11_undo 29 = .ok (.aload_n 0, 1) := by decide +kernel
theorem dX11_undo_30 : decode cX11_undo 30 = .ok (.getfield 116, 3) := by decide +kernel
theorem dX11_undo_33 : decode cX11_undo 33 = .ok (.aaload, 1) := by decide +kernel
theorem dX11_undo_34 : decode cX11_undo 34 = .ok (.invokevirtual 112, 3) := by decide +kernel
theorem dX11_undo_37 : decode cX11_undo 37 = .ok (.aload_n 0, 1) := by decide +kernel
theorem dX11_undo_38 : decode cX11_undo 38 = .ok (.getfield 116, 3) := by decide +kernel
theorem dX11_undo_41 : decode cX11_undo 41 = .ok (.ireturn, 1) := by decide +kernel
theorem dX11_steps_0 : decode cX11_steps 0 = .ok (.aload_n 0, 1) := by decide +kernel
theorem dX11_steps_1 : decode cX11_steps 1 = .ok (.iload_n 1, 1) := by decide +kernel
theorem dX11_steps_2 : decode cX11_steps 2 = .ok (.invokevirtual 122, 3) := by decide +kernel
theorem dX11_steps_5 : decode cX11_steps 5 = .ok (.ifCond .eq 18, 3) := by decide +kernel
theorem dX11_steps_8 : decode cX11_steps 8 = .ok (.aload_n 0, 1) := by decide +kernel
theorem dX11_steps_9 : decode cX11_steps 9 = .ok (.iload_n 2, 1) := by decide +kernel
theorem dX11_steps_10 : decode cX11_steps 10 = .ok (.invokevirtual 145, 3) := by decide +kernel
theorem dX11_steps_13 : decode cX11_steps 13 = .ok (.ifCond .eq 10, 3) := by decide +kernel
theorem dX11_steps_16 : decode cX11_steps 16 = .ok (.iload_n 3, 1) := by decide +kernel
theorem dX11_steps_17 : decode cX11_steps 17 = .ok (.invokestatic 184, 3) := by decide +kernel
theorem dX11_steps_20 : decode cX11_steps 20 = .ok (.ifCond .ne 5, 3) := by decide +kernel
theorem dX11_steps_23 : decode cX11_steps 23 = .ok (.iconst (-1), 1) := by decide +kernel
theorem dX11_steps_24 : decode cX11_steps 24 = .ok (.ireturn, 1) := by decide +kernel
theorem dX11_steps_25 : decode cX11_steps 25 = .ok (.aload_n 0, 1) := by decide +kernel
theorem dX11_steps_26 : decode cX11_steps 26 = .ok (.getfield 39, 3) := by decide +kernel
theorem dX11_steps_29 : decode cX11_steps 29 = .ok (.aload_n 0, 1) := by decide +kernel
theorem dX11_steps_30 : decode cX11_steps 30 = .ok (.getfield 46, 3) := by decide +kernel
theorem dX11_steps_33 : decode cX11_steps 33 = .ok (.iload_n 1, 1) := by decide +kernel
theorem dX11_steps_34 : decode cX11_steps 34 = .ok (.iload_n 2, 1) := by decide +kernel
theorem dX11_steps_35 : decode cX11_steps 35 = .ok (.iconst 0, 1) := by decide +kernel
theorem dX11_steps_36 : decode cX11_steps 36 = .ok (.invokevirtual 211, 3) := by decide +kernel
theorem dX11_steps_39 : decode cX11_steps 39 = .ok (.istore 4, 2) := by decide +kernel
theorem dX11_steps_41 : decode cX11_steps 41 = .ok (.aload_n 0, 1) := by decide +kernel
theorem dX11_steps_42 : decode cX11_steps 42 = .ok (.getfield 39, 3) := by decide +kernel
theorem dX11_steps_45 : decode cX11_steps 45 = .ok (.aload_n 0, 1) := by decide +kernel
theorem dX11_steps_46 : decode cX11_steps 46 = .ok (.getfield 46, 3) := by decide +kernel
theorem dX11_steps_49 : decode cX11_steps 49 = .ok (.iload_n 1, 1) := by decide +kernel
theorem dX11_steps_50 : decode cX11_steps 50 = .ok (.iload_n 2, 1) := by decide +kernel
theorem dX11_steps_51 : decode cX11_steps 51 = .ok (.iconst 1, 1) := by decide +kernel
theorem dX11_steps_52 : decode cX11_steps 52 = .ok (.invokevirtual 211, 3) := by decide +kernel
theorem dX11_steps_55 : decode cX11_steps 55 = .ok (.istore 5, 2) := by decide +kernel
theorem dX11_steps_57 : decode cX11_steps 57 = .ok (.iload 4, 2) := by decide +kernel
theorem dX11_steps_59 : decode cX11_steps 59 = .ok (.iload 5, 2) := by decide +kernel
theorem dX11_steps_61 : decode cX11_steps 61 = .ok (.invokestatic 215, 3) := by decide +kernel
theorem dX11_steps_64 : decode cX11_steps 64 = .ok (.istore 6, 2) := by decide +kernel
theorem dX11_steps_66 : decode cX11_steps 66 = .ok (.iload_n 3, 1) := by decide +kernel
theorem dX11_steps_67 : decode cX11_steps 67 = .ok (.ifCond .ne 6, 3) := by decide +kernel
theorem dX11_steps_70 : decode cX11_steps 70 = .ok (.iload 6, 2) := by decide +kernel
theorem dX11_steps_72 : decode cX11_steps 72 = .ok (.ireturn, 1) := by decide +kernel
theorem dX11_steps_73 : decode cX11_steps 73 = .ok (.iload 6, 2) := by decide +kernel
theorem dX11_steps_75 : decode cX11_steps 75 = .ok (.ifCond .ne 6, 3) := by decide +kernel
theorem dX11_steps_78 : decode cX11_steps 78 = .ok (.bipush (-9), 2) := by decide +kernel
theorem dX11_steps_80 : decode cX11_steps 80 = .ok (.ireturn, 1) := by decide +kernel
theorem dX11_steps_81 : decode cX11_steps 81 = .ok (.iload 4, 2) := by decide +kernel
theorem dX11_steps_83 : decode cX11_steps 83 = .ok (.iload 5, 2) := by decide +kernel
theorem dX11_steps_85 : decode cX11_steps 85 = .ok (.if_icmp .gt 7, 3) := by decide +kernel
theorem dX11_steps_88 : decode cX11_steps 88 = .ok (.iconst 0, 1) := by decide +kernel
theorem dX11_steps_89 : decode cX11_steps 89 = .ok (.goto 4, 3) := by decide +kernel
theorem dX11_steps_92 : decode cX11_steps 92 = .ok (.iconst 1, 1) := by decide +kernel
theorem dX11_steps_93 : decode cX11_steps 93 = .ok (.ireturn, 1) := by decide +kernel
theorem dX11_puts_0 : decode cX11_puts 0 = .ok (.aload_n 0, 1) := by decide +kernel
theorem dX11_puts_1 : decode cX11_puts 1 = .ok (.iload_n 1, 1) := by decide +kernel
theorem dX11_puts_2 : decode cX11_puts 2 = .ok (.invokevirtual 145, 3) := by decide +kernel
theorem dX11_puts_5 : decode cX11_puts 5 = .ok (.ifCond .ne 5, 3) := by decide +kernel
theorem dX11_puts_8 : decode cX11_puts 8 = .ok (.iconst (-1), 1) := by decide +kernel
theorem dX11_puts_9 : decode cX11_puts 9 = .ok (.ireturn, 1) := by decide +kernel
theorem dX11_puts_10 : decode cX11_puts 10 = .ok (.bipush (-9), 2) := by decide +kernel
theorem dX11_puts_12 : decode cX11_puts 12 = .ok (.istore_n 2, 1) := by decide +kernel
theorem dX11_puts_13 : decode cX11_puts 13 = .ok (.aload_n 0, 1) := by decide +kernel
theorem dX11_puts_14 : decode cX11_puts 14 = .ok (.getfield 39, 3) := by decide +kernel
theorem dX11_puts_17 : decode cX11_puts 17 = .ok (.getfield 181, 3) := by decide +kernel
theorem dX11_puts_20 : decode cX11_puts 20 = .ok (.istore_n 3, 1) := by decide +kernel
theorem dX11_puts_21 : decode cX11_puts 21 = .ok (.aload_n 0, 1) := by decide +kernel
theorem dX11_puts_22 : decode cX11_puts 22 = .ok (.getfield 50, 3) := by decide +kernel
theorem dX11_puts_25 : decode cX11_puts 25 = .ok (.aload_n 0, 1) := by decide +kernel
theorem dX11_puts_26 : decode cX11_puts 26 = .ok (.getfield 46, 3) := by decide +kernel
theorem dX11_puts_29 : decode cX11_puts 29 = .ok (.invokevirtual 112, 3) := by decide +kernel
theorem dX11_puts_32 : decode cX11_puts 32 = .ok (.iconst 0, 1) := by decide +kernel
theorem dX11_puts_33 : decode cX11_puts 33 = .ok (.istore 4, 2) := by decide +kernel
theorem dX11_puts_35 : decode cX11_puts 35 = .ok (.iload 4, 2) := by decide +kernel
theorem dX11_puts_37 : decode cX11_puts 37 = .ok (.aload_n 0, 1) := by decide +kernel
theorem dX11_puts_38 : decode cX11_puts 38 = .ok (.getfield 39, 3) := by decide +kernel
theorem dX11_puts_41 : decode cX11_puts 41 = .ok (.getfield 181, 3) := by decide +kernel
theorem dX11_puts_44 : decode cX11_puts 44 = .ok (.if_icmp .ge 75, 3) := by decide +kernel
theorem dX11_puts_47 : decode cX11_puts 47 = .ok (.iload 4, 2) := by decide +kernel
theorem dX11_puts_49 : decode cX11_puts 49 = .ok (.aload_n 0, 1) := by decide +kernel
theorem dX11_puts_50 : decode cX11_puts 50 = .ok (.getfield 46, 3) := by decide +kernel
theorem dX11_puts_53 : decode cX11_puts 53 = .ok (.getfield 148, 3) := by decide +kernel
theorem dX11_puts_56 : decode cX11_puts 56 = .ok (.iload_n 1, 1) := by decide +kernel
theorem dX11_puts_57 : decode cX11_puts 57 = .ok (.iaload, 1) := by decide +kernel
theorem dX11_puts_58 : decode cX11_puts 58 = .ok (.if_icmp .eq 12, 3) := by decide +kernel
theorem dX11_puts_61 : decode cX11_puts 61 = .ok (.aload_n 0, 1) := by decide +kernel
theorem dX11_puts_62 : decode cX11_puts 62 = .ok (.iload 4, 2) := by decide +kernel
theorem dX11_puts_64 : decode cX11_puts 64 = .ok (.invokevirtual 204, 3) := by decide +kernel
theorem dX11_puts_67 : decode cX11_puts 67 = .ok (.ifCond .eq 46, 3) := by decide +kernel
theorem dX11_puts_70 : decode cX11_puts 70 = .ok (.aload_n 0, 1) := by decide +kernel
theorem dX11_puts_71 : decode cX11_puts 71 = .ok (.getfield 50, 3) := by decide +kernel
theorem dX11_puts_74 : decode cX11_puts 74 = .ok (.getfield 148, 3) := by decide +kernel
theorem dX11_puts_77 : decode cX11_puts 77 = .ok (.iload_n 1, 1) := by decide +kernel
theorem dX11_puts_78 : decode cX11_puts 78 = .ok (.iload 4, 2) := by decide +kernel
theorem dX11_puts_80 : decode cX11_puts 80 = .ok (.iastore, 1) := by decide +kernel
theorem dX11_puts_81 : decode cX11_puts 81 = .ok (.aload_n 0, 1) := by decide +kernel
theorem dX11_puts_82 : decode cX11_puts 82 = .ok (.getfield 39, 3) := by decide +kernel
theorem dX11_puts_85 : decode cX11_puts 85 = .ok (.aload_n 0, 1) := by decide +kernel
theorem dX11_puts_86 : decode cX11_puts 86 = .ok (.getfield 50, 3) := by decide +kernel
theorem dX11_puts_89 : decode cX11_puts 89 = .ok (.invokevirtual 170, 3) := by decide +kernel
theorem dX11_puts_92 : decode cX11_puts 92 = .ok (.istore 5, 2) := by decide +kernel
theorem dX11_puts_94 : decode cX11_puts 94 = .ok (.iload 5, 2) := by decide +kernel
theorem dX11_puts_96 : decode cX11_puts 96 = .ok (.bipush (-9), 2) := by decide +kernel
theorem dX11_puts_98 : decode cX11_puts 98 = .ok (.if_icmp .eq 15, 3) := by decide +kernel
theorem dX11_puts_101 : decode cX11_puts 101 = .ok (.iload 5, 2) := by decide +kernel
theorem dX11_puts_103 : decode cX11_puts 103 = .ok (.iload_n 3, 1) := by decide +kernel
theorem dX11_puts_104 : decode cX11_puts 104 = .ok (.if_icmp .ge 9, 3) := by decide +kernel
theorem dX11_puts_107 : decode cX11_puts 107 = .ok (.iload 5, 2) := by decide +kernel
theorem dX11_puts_109 : decode cX11_puts 109 = .ok (.istore_n 3, 1) := by decide +kernel
theorem dX11_puts_110 : decode cX11_puts 110 = .ok (.iload 4, 2) := by decide +kernel
theorem dX11_puts_112 : decode cX11_puts 112 = .ok (.istore_n 2, 1) := by decide +kernel
theorem dX11_puts_113 : decode cX11_puts 113 = .ok (.iinc 4 1, 3) := by decide +kernel
theorem dX11_puts_116 : decode cX11_puts 116 = .ok (.goto (-81), 3) := by decide +kernel
theorem dX11_puts_119 : decode cX11_puts 119 = .ok (.iload_n 2, 1) := by decide +kernel
theorem dX11_puts_120 : decode cX11_puts 120 = .ok (.ireturn, 1) := by decide +kernel
theorem dX11_fed_0 : decode cX11_fed 0 = .ok (.aload_n 0, 1) := by decide +kernel
theorem dX11_fed_1 : decode cX11_fed 1 = .ok (.iload_n 1, 1) := by decide +kernel
theorem dX11_fed_2 : decode cX11_fed 2 = .ok (.invokevirtual 122, 3) := by decide +kernel
theorem dX11_fed_5 : decode cX11_fed 5 = .ok (.ifCond .ne 5, 3) := by decide +kernel
theorem dX11_fed_8 : decode cX11_fed 8 = .ok (.iconst (-1), 1) := by decide +kernel
theorem dX11_fed_9 : decode cX11_fed 9 = .ok (.ireturn, 1) := by decide +kernel
theorem dX11_fed_10 : decode cX11_fed 10 = .ok (.aload_n 0, 1) := by decide +kernel
theorem dX11_fed_11 : decode cX11_fed 11 = .ok (.getfield 19, 3) := by decide +kernel
theorem dX11_fed_14 : decode cX11_fed 14 = .ok (.aload_n 0, 1) := by decide +kernel
theorem dX11_fed_15 : decode cX11_fed 15 = .ok (.getfield 39, 3) := by decide +kernel
theorem dX11_fed_18 : decode cX11_fed 18 = .ok (.aload_n 0, 1) := by decide +kernel
theorem dX11_fed_19 : decode cX11_fed 19 = .ok (.getfield 46, 3) := by decide +kernel
theorem dX11_fed_22 : decode cX11_fed 22 = .ok (.invokevirtual 177, 3) := by decide +kernel
theorem dX11_fed_25 : decode cX11_fed 25 = .ok (.pop, 1) := by decide +kernel
theorem dX11_fed_26 : decode cX11_fed 26 = .ok (.aload_n 0, 1) := by decide +kernel
theorem dX11_fed_27 : decode cX11_fed 27 = .ok (.getfield 19, 3) := by decide +kernel
theorem dX11_fed_30 : decode cX11_fed 30 = .ok (.getfield 221, 3) := by decide +kernel
theorem dX11_fed_33 : decode cX11_fed 33 = .ok (.iload_n 1, 1) := by decide +kernel
theorem dX11_fed_34 : decode cX11_fed 34 = .ok (.iaload, 1) := by decide +kernel
theorem dX11_fed_35 : decode cX11_fed 35 = .ok (.ireturn, 1) := by decide +kernel
theorem dX11_odds_0 : decode cX11_odds 0 = .ok (.iload_n 1, 1) := by decide +kernel
theorem dX11_odds_1 : decode cX11_odds 1 = .ok (.ifCond .lt 24, 3) := by decide +kernel
theorem dX11_odds_4 : decode cX11_odds 4 = .ok (.iload_n 1, 1) := by decide +kernel
theorem dX11_odds_5 : decode cX11_odds 5 = .ok (.bipush 10, 2) := by decide +kernel
theorem dX11_odds_7 : decode cX11_odds 7 = .ok (.if_icmp .gt 18, 3) := by decide +kernel
theorem dX11_odds_10 : decode cX11_odds 10 = .ok (.aload_n 0, 1) := by decide +kernel
theorem dX11_odds_11 : decode cX11_odds 11 = .ok (.iload_n 2, 1) := by decide +kernel
theorem dX11_odds_12 : decode cX11_odds 12 = .ok (.invokevirtual 201, 3) := by decide +kernel
theorem dX11_odds_15 : decode cX11_odds 15 = .ok (.ifCond .eq 10, 3) := by decide +kernel
theorem dX11_odds_18 : decode cX11_odds 18 = .ok (.iload_n 3, 1) := by decide +kernel
theorem dX11_odds_19 : decode cX11_odds 19 = .ok (.invokestatic 184, 3) := by decide +kernel
theorem dX11_odds_22 : decode cX11_odds 22 = .ok (.ifCond .ne 5, 3) := by decide +kernel
theorem dX11_odds_25 : decode cX11_odds 25 = .ok (.iconst (-1), 1) := by decide +kernel
theorem dX11_odds_26 : decode cX11_odds 26 = .ok (.ireturn, 1) := by decide +kernel
theorem dX11_odds_27 : decode cX11_odds 27 = .ok (.aload_n 0, 1) := by decide +kernel
theorem dX11_odds_28 : decode cX11_odds 28 = .ok (.iload_n 1, 1) := by decide +kernel
theorem dX11_odds_29 : decode cX11_odds 29 = .ok (.invokevirtual 224, 3) := by decide +kernel
theorem dX11_odds_32 : decode cX11_odds 32 = .ok (.istore 4, 2) := by decide +kernel
theorem dX11_odds_34 : decode cX11_odds 34 = .ok (.aload_n 0, 1) := by decide +kernel
theorem dX11_odds_35 : decode cX11_odds 35 = .ok (.getfield 74, 3) := by decide +kernel
theorem dX11_odds_38 : decode cX11_odds 38 = .ok (.iload_n 2, 1) := by decide +kernel
theorem dX11_odds_39 : decode cX11_odds 39 = .ok (.iaload, 1) := by decide +kernel
theorem dX11_odds_40 : decode cX11_odds 40 = .ok (.istore 5, 2) := by decide +kernel
theorem dX11_odds_42 : decode cX11_odds 42 = .ok (.iconst 0, 1) := by decide +kernel
theorem dX11_odds_43 : decode cX11_odds 43 = .ok (.istore 6, 2) := by decide +kernel
theorem dX11_odds_45 : decode cX11_odds 45 = .ok (.iload 6, 2) := by decide +kernel
theorem dX11_odds_47 : decode cX11_odds 47 = .ok (.aload_n 0, 1) := by decide +kernel
theorem dX11_odds_48 : decode cX11_odds 48 = .ok (.getfield 39, 3) := by decide +kernel
theorem dX11_odds_51 : decode cX11_odds 51 = .ok (.getfield 227, 3) := by decide +kernel
theorem dX11_odds_54 : decode cX11_odds 54 = .ok (.if_icmp .ge 61, 3) := by decide +kernel
theorem dX11_odds_57 : decode cX11_odds 57 = .ok (.iload 4, 2) := by decide +kernel
theorem dX11_odds_59 : decode cX11_odds 59 = .ok (.iconst 2, 1) := by decide +kernel
theorem dX11_odds_60 : decode cX11_odds 60 = .ok (.irem, 1) := by decide +kernel
theorem dX11_odds_61 : decode cX11_odds 61 = .ok (.ifCond .ne 22, 3) := by decide +kernel
theorem dX11_odds_64 : decode cX11_odds 64 = .ok (.iload 5, 2) := by decide +kernel
theorem dX11_odds_66 : decode cX11_odds 66 = .ok (.iconst 2, 1) := by decide +kernel
theorem dX11_odds_67 : decode cX11_odds 67 = .ok (.irem, 1) := by decide +kernel
theorem dX11_odds_68 : decode cX11_odds 68 = .ok (.ifCond .ne 15, 3) := by decide +kernel
theorem dX11_odds_71 : decode cX11_odds 71 = .ok (.iload 4, 2) := by decide +kernel
theorem dX11_odds_73 : decode cX11_odds 73 = .ok (.iconst 2, 1) := by decide +kernel
theorem dX11_odds_74 : decode cX11_odds 74 = .ok (.idiv, 1) := by decide +kernel
theorem dX11_odds_75 : decode cX11_odds 75 = .ok (.istore 4, 2) := by decide +kernel
theorem dX11_odds_77 : decode cX11_odds 77 = .ok (.iload 5, 2) := by decide +kernel
theorem dX11_odds_79 : decode cX11_odds 79 = .ok (.iconst 2, 1) := by decide +kernel
theorem dX11_odds_80 : decode cX11_odds 80 = .ok (.idiv, 1) := by decide +kernel
theorem dX11_odds_81 : decode cX11_odds 81 = .ok (.istore 5, 2) := by decide +kernel
theorem dX11_odds_83 : decode cX11_odds 83 = .ok (.iload 4, 2) := by decide +kernel
theorem dX11_odds_85 : decode cX11_odds 85 = .ok (.iconst 5, 1) := by decide +kernel
theorem dX11_odds_86 : decode cX11_odds 86 = .ok (.irem, 1) := by decide +kernel
theorem dX11_odds_87 : decode cX11_odds 87 = .ok (.ifCond .ne 22, 3) := by decide +kernel
theorem dX11_odds_90 : decode cX11_odds 90 = .ok (.iload 5, 2) := by decide +kernel
theorem dX11_odds_92 : decode cX11_odds 92 = .ok (.iconst 5, 1) := by decide +kernel
theorem dX11_odds_93 : decode cX11_odds 93 = .ok (.irem, 1) := by decide +kernel
theorem dX11_odds_94 : decode cX11_odds 94 = .ok (.ifCond .ne 15, 3) := by decide +kernel
theorem dX11_odds_97 : decode cX11_odds 97 = .ok (.iload 4, 2) := by decide +kernel
theorem dX11_odds_99 : decode cX11_odds 99 = .ok (.iconst 5, 1) := by decide +kernel
theorem dX11_odds_100 : decode cX11_odds 100 = .ok (.idiv, 1) := by decide +kernel
theorem dX11_odds_101 : decode cX11_odds 101 = .ok (.istore 4, 2) := by decide +kernel
theorem dX11_odds_103 : decode cX11_odds 103 = .ok (.iload 5, 2) := by decide +kernel
theorem dX11_odds_105 : decode cX11_odds 105 = .ok (.iconst 5, 1) := by decide +kernel
theorem dX11_odds_106 : decode cX11_odds 106 = .ok (.idiv, 1) := by decide +kernel
theorem dX11_odds_107 : decode cX11_odds 107 = .ok (.istore 5, 2) := by decide +kernel
theorem dX11_odds_109 : decode cX11_odds 109 = .ok (.iinc 6 1, 3) := by decide +kernel
theorem dX11_odds_112 : decode cX11_odds 112 = .ok (.goto (-67), 3) := by decide +kernel
theorem dX11_odds_115 : decode cX11_odds 115 = .ok (.iload_n 3, 1) := by decide +kernel
theorem dX11_odds_116 : decode cX11_odds 116 = .ok (.ifCond .ne 8, 3) := by decide +kernel
theorem dX11_odds_119 : decode cX11_odds 119 = .ok (.iload 5, 2) := by decide +kernel
theorem dX11_odds_121 : decode cX11_odds 121 = .ok (.goto 5, 3) := by decide +kernel
theorem dX11_odds_124 : decode cX11_odds 124 = .ok (.iload 4, 2) := by decide +kernel
theorem dX11_odds_126 : decode cX11_odds 126 = .ok (.ireturn, 1) := by decide +kernel
theorem dX11_sees_0 : decode cX11_sees 0 = .ok (.aload_n 0, 1) := by decide +kernel
theorem dX11_sees_1 : decode cX11_sees 1 = .ok (.iload_n 1, 1) := by decide +kernel
theorem dX11_sees_2 : decode cX11_sees 2 = .ok (.invokevirtual 145, 3) := by decide +kernel
theorem dX11_sees_5 : decode cX11_sees 5 = .ok (.ifCond .eq 18, 3) := by decide +kernel
theorem dX11_sees_8 : decode cX11_sees 8 = .ok (.aload_n 0, 1) := by decide +kernel
theorem dX11_sees_9 : decode cX11_sees 9 = .ok (.iload_n 2, 1) := by decide +kernel
theorem dX11_sees_10 : decode cX11_sees 10 = .ok (.invokevirtual 201, 3) := by decide +kernel
theorem dX11_sees_13 : decode cX11_sees 13 = .ok (.ifCond .eq 10, 3) := by decide +kernel
theorem dX11_sees_16 : decode cX11_sees 16 = .ok (.iload_n 3, 1) := by decide +kernel
theorem dX11_sees_17 : decode cX11_sees 17 = .ok (.invokestatic 184, 3) := by decide +kernel
theorem dX11_sees_20 : decode cX11_sees 20 = .ok (.ifCond .ne 5, 3) := by decide +kernel
theorem dX11_sees_23 : decode cX11_sees 23 = .ok (.iconst (-1), 1) := by decide +kernel
theorem dX11_sees_24 : decode cX11_sees 24 = .ok (.ireturn, 1) := by decide +kernel
theorem dX11_sees_25 : decode cX11_sees 25 = .ok (.aload_n 0, 1) := by decide +kernel
theorem dX11_sees_26 : decode cX11_sees 26 = .ok (.getfield 119, 3) := by decide +kernel
theorem dX11_sees_29 : decode cX11_sees 29 = .ok (.bipush 6, 2) := by decide +kernel
theorem dX11_sees_31 : decode cX11_sees 31 = .ok (.if_icmp .lt 6, 3) := by decide +kernel
theorem dX11_sees_34 : decode cX11_sees 34 = .ok (.bipush (-3), 2) := by decide +kernel
theorem dX11_sees_36 : decode cX11_sees 36 = .ok (.ireturn, 1) := by decide +kernel
theorem dX11_sees_37 : decode cX11_sees 37 = .ok (.aload_n 0, 1) := by decide +kernel
theorem dX11_sees_38 : decode cX11_sees 38 = .ok (.getfield 64, 3) := by decide +kernel
theorem dX11_sees_41 : decode cX11_sees 41 = .ok (.aload_n 0, 1) := by decide +kernel
theorem dX11_sees_42 : decode cX11_sees 42 = .ok (.getfield 119, 3) := by decide +kernel
theorem dX11_sees_45 : decode cX11_sees 45 = .ok (.iload_n 1, 1) := by decide +kernel
theorem dX11_sees_46 : decode cX11_sees 46 = .ok (.iastore, 1) := by decide +kernel
theorem dX11_sees_47 : decode cX11_sees 47 = .ok (.aload_n 0, 1) := by decide +kernel
theorem dX11_sees_48 : decode cX11_sees 48 = .ok (.getfield 68, 3) := by decide +kernel
theorem dX11_sees_51 : decode cX11_sees 51 = .ok (.aload_n 0, 1) := by decide +kernel
theorem dX11_sees_52 : decode cX11_sees 52 = .ok (.getfield 119, 3) := by decide +kernel
theorem dX11_sees_55 : decode cX11_sees 55 = .ok (.iload_n 2, 1) := by decide +kernel
theorem dX11_sees_56 : decode cX11_sees 56 = .ok (.iastore, 1) := by decide +kernel
theorem dX11_sees_57 : decode cX11_sees 57 = .ok (.aload_n 0, 1) := by decide +kernel
theorem dX11_sees_58 : decode cX11_sees 58 = .ok (.getfield 71, 3) := by decide +kernel
theorem dX11_sees_61 : decode cX11_sees 61 = .ok (.aload_n 0, 1) := by decide +kernel
theorem dX11_sees_62 : decode cX11_sees 62 = .ok (.getfield 119, 3) := by decide +kernel
theorem dX11_sees_65 : decode cX11_sees 65 = .ok (.iload_n 3, 1) := by decide +kernel
theorem dX11_sees_66 : decode cX11_sees 66 = .ok (.iconst 1, 1) := by decide +kernel
theorem dX11_sees_67 : decode cX11_sees 67 = .ok (.if_icmp .ne 7, 3) := by decide +kernel
theorem dX11_sees_70 : decode cX11_sees 70 = .ok (.iconst 1, 1) := by decide +kernel
theorem dX11_sees_71 : decode cX11_sees 71 = .ok (.goto 4, 3) := by decide +kernel
theorem dX11_sees_74 : decode cX11_sees 74 = .ok (.iconst 0, 1) := by decide +kernel
theorem dX11_sees_75 : decode cX11_sees 75 = .ok (.bastore, 1) := by decide +kernel
theorem dX11_sees_76 : decode cX11_sees 76 = .ok (.aload_n 0, 1) := by decide +kernel
theorem dX11_sees_77 : decode cX11_sees 77 = .ok (.dup, 1) := by decide +kernel
theorem dX11_sees_78 : decode cX11_sees 78 = .ok (.getfield 119, 3) := by decide +kernel
theorem dX11_sees_81 : decode cX11_sees 81 = .ok (.iconst 1, 1) := by decide +kernel
theorem dX11_sees_82 : decode cX11_sees 82 = .ok (.iadd, 1) := by decide +kernel
theorem dX11_sees_83 : decode cX11_sees 83 = .ok (.putfield 119, 3) := by decide +kernel
theorem dX11_sees_86 : decode cX11_sees 86 = .ok (.aload_n 0, 1) := by decide +kernel
theorem dX11_sees_87 : decode cX11_sees 87 = .ok (.getfield 119, 3) := by decide +kernel
theorem dX11_sees_90 : decode cX11_sees 90 = .ok (.ireturn, 1) := by decide +kernel
theorem dX11_forget_0 : decode cX11_forget 0 = .ok (.aload_n 0, 1) := by decide +kernel
theorem dX11_forget_1 : decode cX11_forget 1 = .ok (.getfield 119, 3) := by decide +kernel
theorem dX11_forget_4 : decode cX11_forget 4 = .ok (.istore_n 1, 1) := by decide +kernel
theorem dX11_forget_5 : decode cX11_forget 5 = .ok (.aload_n 0, 1) := by decide +kernel
theorem dX11_forget_6 : decode cX11_forget 6 = .ok (.iconst 0, 1) := by decide +kernel
theorem dX11_forget_7 : decode cX11_forget 7 = .ok (.putfield 119, 3) := by decide +kernel
theorem dX11_forget_10 : decode cX11_forget 10 = .ok (.iload_n 1, 1) := by decide +kernel
theorem dX11_forget_11 : decode cX11_forget 11 = .ok (.ireturn, 1) := by decide +kernel
theorem dX11_who_0 : decode cX11_who 0 = .ok (.iconst 0, 1) := by decide +kernel
theorem dX11_who_1 : decode cX11_who 1 = .ok (.istore_n 1, 1) := by decide +kernel
theorem dX11_who_2 : decode cX11_who 2 = .ok (.iconst 0, 1) := by decide +kernel
theorem dX11_who_3 : decode cX11_who 3 = .ok (.istore_n 2, 1) := by decide +kernel
theorem dX11_who_4 : decode cX11_who 4 = .ok (.iload_n 2, 1) := by decide +kernel
theorem dX11_who_5 : decode cX11_who 5 = .ok (.aload_n 0, 1) := by decide +kernel
theorem dX11_who_6 : decode cX11_who 6 = .ok (.getfield 39, 3) := by decide +kernel
theorem dX11_who_9 : decode cX11_who 9 = .ok (.getfield 227, 3) := by decide +kernel
theorem dX11_who_12 : decode cX11_who 12 = .ok (.if_icmp .ge 23, 3) := by decide +kernel
theorem dX11_who_15 : decode cX11_who 15 = .ok (.aload_n 0, 1) := by decide +kernel
theorem dX11_who_16 : decode cX11_who 16 = .ok (.iload_n 2, 1) := by decide +kernel
theorem dX11_who_17 : decode cX11_who 17 = .ok (.invokevirtual 230, 3) := by decide +kernel
theorem dX11_who_20 : decode cX11_who 20 = .ok (.ifCond .eq 9, 3) := by decide +kernel
theorem dX11_who_23 : decode cX11_who 23 = .ok (.iload_n 1, 1) := by decide +kernel
theorem dX11_who_24 : decode cX11_who 24 = .ok (.iconst 1, 1) := by decide +kernel
theorem dX11_who_25 : decode cX11_who 25 = .ok (.iload_n 2, 1) := by decide +kernel
theorem dX11_who_26 : decode cX11_who 26 = .ok (.ishl, 1) := by decide +kernel
theorem dX11_who_27 : decode cX11_who 27 = .ok (.ior, 1) := by decide +kernel
theorem dX11_who_28 : decode cX11_who 28 = .ok (.istore_n 1, 1) := by decide +kernel
theorem dX11_who_29 : decode cX11_who 29 = .ok (.iinc 2 1, 3) := by decide +kernel
theorem dX11_who_32 : decode cX11_who 32 = .ok (.goto (-28), 3) := by decide +kernel
theorem dX11_who_35 : decode cX11_who 35 = .ok (.iload_n 1, 1) := by decide +kernel
theorem dX11_who_36 : decode cX11_who 36 = .ok (.ireturn, 1) := by decide +kernel
theorem dX11_look_0 : decode cX11_look 0 = .ok (.aload_n 0, 1) := by decide +kernel
theorem dX11_look_1 : decode cX11_look 1 = .ok (.iload_n 1, 1) := by decide +kernel
theorem dX11_look_2 : decode cX11_look 2 = .ok (.invokevirtual 145, 3) := by decide +kernel
theorem dX11_look_5 : decode cX11_look 5 = .ok (.ifCond .ne 5, 3) := by decide +kernel
theorem dX11_look_8 : decode cX11_look 8 = .ok (.iconst (-1), 1) := by decide +kernel
theorem dX11_look_9 : decode cX11_look 9 = .ok (.ireturn, 1) := by decide +kernel
theorem dX11_look_10 : decode cX11_look 10 = .ok (.aload_n 0, 1) := by decide +kernel
theorem dX11_look_11 : decode cX11_look 11 = .ok (.invokevirtual 233, 3) := by decide +kernel
theorem dX11_look_14 : decode cX11_look 14 = .ok (.istore_n 2, 1) := by decide +kernel
theorem dX11_look_15 : decode cX11_look 15 = .ok (.iload_n 2, 1) := by decide +kernel
theorem dX11_look_16 : decode cX11_look 16 = .ok (.invokestatic 236, 3) := by decide +kernel
theorem dX11_look_19 : decode cX11_look 19 = .ok (.istore_n 3, 1) := by decide +kernel
theorem dX11_look_20 : decode cX11_look 20 = .ok (.iload_n 3, 1) := by decide +kernel
theorem dX11_look_21 : decode cX11_look 21 = .ok (.iconst 2, 1) := by decide +kernel
theorem dX11_look_22 : decode cX11_look 22 = .ok (.if_icmp .ge 6, 3) := by decide +kernel
theorem dX11_look_25 : decode cX11_look 25 = .ok (.bipush (-9), 2) := by decide +kernel
theorem dX11_look_27 : decode cX11_look 27 = .ok (.ireturn, 1) := by decide +kernel
theorem dX11_look_28 : decode cX11_look 28 = .ok (.bipush (-9), 2) := by decide +kernel
theorem dX11_look_30 : decode cX11_look 30 = .ok (.istore 4, 2) := by decide +kernel
theorem dX11_look_32 : decode cX11_look 32 = .ok (.iload_n 3, 1) := by decide +kernel
theorem dX11_look_33 : decode cX11_look 33 = .ok (.iconst 1, 1) := by decide +kernel
theorem dX11_look_34 : decode cX11_look 34 = .ok (.iadd, 1) := by decide +kernel
theorem dX11_look_35 : decode cX11_look 35 = .ok (.istore 5, 2) := by decide +kernel
theorem dX11_look_37 : decode cX11_look 37 = .ok (.iconst 0, 1) := by decide +kernel
theorem dX11_look_38 : decode cX11_look 38 = .ok (.istore 6, 2) := by decide +kernel
theorem dX11_look_40 : decode cX11_look 40 = .ok (.iload 6, 2) := by decide +kernel
theorem dX11_look_42 : decode cX11_look 42 = .ok (.aload_n 0, 1) := by decide +kernel
theorem dX11_look_43 : decode cX11_look 43 = .ok (.getfield 39, 3) := by decide +kernel
theorem dX11_look_46 : decode cX11_look 46 = .ok (.getfield 181, 3) := by decide +kernel
theorem dX11_look_49 : decode cX11_look 49 = .ok (.if_icmp .ge 56, 3) := by decide +kernel
theorem dX11_look_52 : decode cX11_look 52 = .ok (.iload_n 2, 1) := by decide +kernel
theorem dX11_look_53 : decode cX11_look 53 = .ok (.aload_n 0, 1) := by decide +kernel
theorem dX11_look_54 : decode cX11_look 54 = .ok (.getfield 39, 3) := by decide +kernel
theorem dX11_look_57 : decode cX11_look 57 = .ok (.aload_n 0, 1) := by decide +kernel
theorem dX11_look_58 : decode cX11_look 58 = .ok (.getfield 46, 3) := by decide +kernel
theorem dX11_look_61 : decode cX11_look 61 = .ok (.iload_n 1, 1) := by decide +kernel
theorem dX11_look_62 : decode cX11_look 62 = .ok (.iload 6, 2) := by decide +kernel
theorem dX11_look_64 : decode cX11_look 64 = .ok (.invokevirtual 163, 3) := by decide +kernel
theorem dX11_look_67 : decode cX11_look 67 = .ok (.iand, 1) := by decide +kernel
theorem dX11_look_68 : decode cX11_look 68 = .ok (.invokestatic 236, 3) := by decide +kernel
theorem dX11_look_71 : decode cX11_look 71 = .ok (.istore 7, 2) := by decide +kernel
theorem dX11_look_73 : decode cX11_look 73 = .ok (.iload 7, 2) := by decide +kernel
theorem dX11_look_75 : decode cX11_look 75 = .ok (.iload_n 3, 1) := by decide +kernel
theorem dX11_look_76 : decode cX11_look 76 = .ok (.iload 7, 2) := by decide +kernel
theorem dX11_look_78 : decode cX11_look 78 = .ok (.isub, 1) := by decide +kernel
theorem dX11_look_79 : decode cX11_look 79 = .ok (.invokestatic 241, 3) := by decide +kernel
theorem dX11_look_82 : decode cX11_look 82 = .ok (.istore 8, 2) := by decide +kernel
theorem dX11_look_84 : decode cX11_look 84 = .ok (.iload 8, 2) := by decide +kernel
theorem dX11_look_86 : decode cX11_look 86 = .ok (.iload 5, 2) := by decide +kernel
theorem dX11_look_88 : decode cX11_look 88 = .ok (.if_icmp .ge 11, 3) := by decide +kernel
theorem dX11_look_91 : decode cX11_look 91 = .ok (.iload 8, 2) := by decide +kernel
theorem dX11_look_93 : decode cX11_look 93 = .ok (.istore 5, 2) := by decide +kernel
theorem dX11_look_95 : decode cX11_look 95 = .ok (.iload 6, 2) := by decide +kernel
theorem dX11_look_97 : decode cX11_look 97 = .ok (.istore 4, 2) := by decide +kernel
theorem dX11_look_99 : decode cX11_look 99 = .ok (.iinc 6 1, 3) := by decide +kernel
theorem dX11_look_102 : decode cX11_look 102 = .ok (.goto (-62), 3) := by decide +kernel
theorem dX11_look_105 : decode cX11_look 105 = .ok (.iload 4, 2) := by decide +kernel
theorem dX11_look_107 : decode cX11_look 107 = .ok (.ireturn, 1) := by decide +kernel
theorem dX11_rate_0 : decode cX11_rate 0 = .ok (.iload_n 1, 1) := by decide +kernel
theorem dX11_rate_1 : decode cX11_rate 1 = .ok (.ifCond .lt 17, 3) := by decide +kernel
theorem dX11_rate_4 : decode cX11_rate 4 = .ok (.iload_n 1, 1) := by decide +kernel
theorem dX11_rate_5 : decode cX11_rate 5 = .ok (.bipush 6, 2) := by decide +kernel
theorem dX11_rate_7 : decode cX11_rate 7 = .ok (.if_icmp .ge 11, 3) := by decide +kernel
theorem dX11_rate_10 : decode cX11_rate 10 = .ok (.aload_n 0, 1) := by decide +kernel
theorem dX11_rate_11 : decode cX11_rate 11 = .ok (.iload_n 2, 1) := by decide +kernel
theorem dX11_rate_12 : decode cX11_rate 12 = .ok (.invokevirtual 122, 3) := by decide +kernel
theorem dX11_rate_15 : decode cX11_rate 15 = .ok (.ifCond .ne 6, 3) := by decide +kernel
theorem dX11_rate_18 : decode cX11_rate 18 = .ok (.ldc 244, 2) := by decide +kernel
theorem dX11_rate_20 : decode cX11_rate 20 = .ok (.ireturn, 1) := by decide +kernel
theorem dX11_rate_21 : decode cX11_rate 21 = .ok (.aload_n 0, 1) := by decide +kernel
theorem dX11_rate_22 : decode cX11_rate 22 = .ok (.getfield 26, 3) := by decide +kernel
theorem dX11_rate_25 : decode cX11_rate 25 = .ok (.iload_n 2, 1) := by decide +kernel
theorem dX11_rate_26 : decode cX11_rate 26 = .ok (.putfield 245, 3) := by decide +kernel
theorem dX11_rate_29 : decode cX11_rate 29 = .ok (.aload_n 0, 1) := by decide +kernel
theorem dX11_rate_30 : decode cX11_rate 30 = .ok (.getfield 26, 3) := by decide +kernel
theorem dX11_rate_33 : decode cX11_rate 33 = .ok (.aload_n 0, 1) := by decide +kernel
theorem dX11_rate_34 : decode cX11_rate 34 = .ok (.getfield 39, 3) := by decide +kernel
theorem dX11_rate_37 : decode cX11_rate 37 = .ok (.getfield 129, 3) := by decide +kernel
theorem dX11_rate_40 : decode cX11_rate 40 = .ok (.iload_n 2, 1) := by decide +kernel
theorem dX11_rate_41 : decode cX11_rate 41 = .ok (.iaload, 1) := by decide +kernel
theorem dX11_rate_42 : decode cX11_rate 42 = .ok (.putfield 248, 3) := by decide +kernel
theorem dX11_rate_45 : decode cX11_rate 45 = .ok (.aload_n 0, 1) := by decide +kernel
theorem dX11_rate_46 : decode cX11_rate 46 = .ok (.getfield 26, 3) := by decide +kernel
theorem dX11_rate_49 : decode cX11_rate 49 = .ok (.aload_n 0, 1) := by decide +kernel
theorem dX11_rate_50 : decode cX11_rate 50 = .ok (.getfield 39, 3) := by decide +kernel
theorem dX11_rate_53 : decode cX11_rate 53 = .ok (.aload_n 0, 1) := by decide +kernel
theorem dX11_rate_54 : decode cX11_rate 54 = .ok (.getfield 46, 3) := by decide +kernel
theorem dX11_rate_57 : decode cX11_rate 57 = .ok (.iload_n 2, 1) := by decide +kernel
theorem dX11_rate_58 : decode cX11_rate 58 = .ok (.invokevirtual 138, 3) := by decide +kernel
theorem dX11_rate_61 : decode cX11_rate 61 = .ok (.invokestatic 236, 3) := by decide +kernel
theorem dX11_rate_64 : decode cX11_rate 64 = .ok (.putfield 251, 3) := by decide +kernel
theorem dX11_rate_67 : decode cX11_rate 67 = .ok (.aload_n 0, 1) := by decide +kernel
theorem dX11_rate_68 : decode cX11_rate 68 = .ok (.getfield 26, 3) := by decide +kernel
theorem dX11_rate_71 : decode cX11_rate 71 = .ok (.aload_n 0, 1) := by decide +kernel
theorem dX11_rate_72 : decode cX11_rate 72 = .ok (.getfield 39, 3) := by decide +kernel
theorem dX11_rate_75 : decode cX11_rate 75 = .ok (.aload_n 0, 1) := by decide +kernel
theorem dX11_rate_76 : decode cX11_rate 76 = .ok (.getfield 46, 3) := by decide +kernel
theorem dX11_rate_79 : decode cX11_rate 79 = .ok (.iload_n 2, 1) := by decide +kernel
theorem dX11_rate_80 : decode cX11_rate 80 = .ok (.invokevirtual 142, 3) := by decide +kernel
theorem dX11_rate_83 : decode cX11_rate 83 = .ok (.invokestatic 236, 3) := by decide +kernel
theorem dX11_rate_86 : decode cX11_rate 86 = .ok (.putfield 253, 3) := by decide +kernel
theorem dX11_rate_89 : decode cX11_rate 89 = .ok (.aload_n 0, 1) := by decide +kernel
theorem dX11_rate_90 : decode cX11_rate 90 = .ok (.getfield 26, 3) := by decide +kernel
theorem dX11_rate_93 : decode cX11_rate 93 = .ok (.aload_n 0, 1) := by decide +kernel
theorem dX11_rate_94 : decode cX11_rate 94 = .ok (.getfield 46, 3) := by decide +kernel
theorem dX11_rate_97 : decode cX11_rate 97 = .ok (.getfield 160, 3) := by decide +kernel
theorem dX11_rate_100 : decode cX11_rate 100 = .ok (.putfield 255, 3) := by decide +kernel
theorem dX11_rate_103 : decode cX11_rate 103 = .ok (.aload_n 0, 1) := by decide +kernel
theorem dX11_rate_104 : decode cX11_rate 104 = .ok (.getfield 32, 3) := by decide +kernel
theorem dX11_rate_107 : decode cX11_rate 107 = .ok (.iload_n 1, 1) := by decide +kernel
theorem dX11_rate_108 : decode cX11_rate 108 = .ok (.aaload, 1) := by decide +kernel
theorem dX11_rate_109 : decode cX11_rate 109 = .ok (.aload_n 0, 1) := by decide +kernel
theorem dX11_rate_110 : decode cX11_rate 110 = .ok (.getfield 26, 3) := by decide +kernel
theorem dX11_rate_113 : decode cX11_rate 113 = .ok (.invokevirtual 256, 3) := by decide +kernel
theorem dX11_rate_116 : decode cX11_rate 116 = .ok (.ireturn, 1) := by decide +kernel
theorem dX11_keep_0 : decode cX11_keep 0 = .ok (.aload_n 0, 1) := by decide +kernel
theorem dX11_keep_1 : decode cX11_keep 1 = .ok (.iload_n 1, 1) := by decide +kernel
theorem dX11_keep_2 : decode cX11_keep 2 = .ok (.invokevirtual 260, 3) := by decide +kernel
theorem dX11_keep_5 : decode cX11_keep 5 = .ok (.ifCond .ne 5, 3) := by decide +kernel
theorem dX11_keep_8 : decode cX11_keep 8 = .ok (.iconst (-1), 1) := by decide +kernel
theorem dX11_keep_9 : decode cX11_keep 9 = .ok (.ireturn, 1) := by decide +kernel
theorem dX11_keep_10 : decode cX11_keep 10 = .ok (.aload_n 0, 1) := by decide +kernel
theorem dX11_keep_11 : decode cX11_keep 11 = .ok (.getfield 57, 3) := by decide +kernel
theorem dX11_keep_14 : decode cX11_keep 14 = .ok (.iload_n 1, 1) := by decide +kernel
theorem dX11_keep_15 : decode cX11_keep 15 = .ok (.aaload, 1) := by decide +kernel
theorem dX11_keep_16 : decode cX11_keep 16 = .ok (.aload_n 0, 1) := by decide +kernel
theorem dX11_keep_17 : decode cX11_keep 17 = .ok (.getfield 46, 3) := by decide +kernel
theorem dX11_keep_20 : decode cX11_keep 20 = .ok (.invokevirtual 112, 3) := by decide +kernel
theorem dX11_keep_23 : decode cX11_keep 23 = .ok (.aload_n 0, 1) := by decide +kernel
theorem dX11_keep_24 : decode cX11_keep 24 = .ok (.getfield 60, 3) := by decide +kernel
theorem dX11_keep_27 : decode cX11_keep 27 = .ok (.iload_n 1, 1) := by decide +kernel
theorem dX11_keep_28 : decode cX11_keep 28 = .ok (.iconst 1, 1) := by decide +kernel
theorem dX11_keep_29 : decode cX11_keep 29 = .ok (.bastore, 1) := by decide +kernel
theorem dX11_keep_30 : decode cX11_keep 30 = .ok (.aload_n 0, 1) := by decide +kernel
theorem dX11_keep_31 : decode cX11_keep 31 = .ok (.getfield 46, 3) := by decide +kernel
theorem dX11_keep_34 : decode cX11_keep 34 = .ok (.getfield 160, 3) := by decide +kernel
theorem dX11_keep_37 : decode cX11_keep 37 = .ok (.ireturn, 1) := by decide +kernel
theorem dX11_back_0 : decode cX11_back 0 = .ok (.aload_n 0, 1) := by decide +kernel
theorem dX11_back_1 : decode cX11_back 1 = .ok (.iload_n 1, 1) := by decide +kernel
theorem dX11_back_2 : decode cX11_back 2 = .ok (.invokevirtual 260, 3) := by decide +kernel
theorem dX11_back_5 : decode cX11_back 5 = .ok (.ifCond .ne 5, 3) := by decide +kernel
theorem dX11_back_8 : decode cX11_back 8 = .ok (.iconst (-1), 1) := by decide +kernel
theorem dX11_back_9 : decode cX11_back 9 = .ok (.ireturn, 1) := by decide +kernel
theorem dX11_back_10 : decode cX11_back 10 = .ok (.aload_n 0, 1) := by decide +kernel
theorem dX11_back_11 : decode cX11_back 11 = .ok (.getfield 60, 3) := by decide +kernel
theorem dX11_back_14 : decode cX11_back 14 = .ok (.iload_n 1, 1) := by decide +kernel
theorem dX11_back_15 : decode cX11_back 15 = .ok (.baload, 1) := by decide +kernel
theorem dX11_back_16 : decode cX11_back 16 = .ok (.ifCond .ne 6, 3) := by decide +kernel
theorem dX11_back_19 : decode cX11_back 19 = .ok (.bipush (-2), 2) := by decide +kernel
theorem dX11_back_21 : decode cX11_back 21 = .ok (.ireturn, 1) := by decide +kernel
theorem dX11_back_22 : decode cX11_back 22 = .ok (.aload_n 0, 1) := by decide +kernel
theorem dX11_back_23 : decode cX11_back 23 = .ok (.getfield 46, 3) := by decide +kernel
theorem dX11_back_26 : decode cX11_back 26 = .ok (.aload_n 0, 1) := by decide +kernel
theorem dX11_back_27 : decode cX11_back 27 = .ok (.getfield 57, 3) := by decide +kernel
theorem dX11_back_30 : decode cX11_back 30 = .ok (.iload_n 1, 1) := by decide +kernel
theorem dX11_back_31 : decode cX11_back 31 = .ok (.aaload, 1) := by decide +kernel
theorem dX11_back_32 : decode cX11_back 32 = .ok (.invokevirtual 112, 3) := by decide +kernel
theorem dX11_back_35 : decode cX11_back 35 = .ok (.aload_n 0, 1) := by decide +kernel
theorem dX11_back_36 : decode cX11_back 36 = .ok (.iconst 0, 1) := by decide +kernel
theorem dX11_back_37 : decode cX11_back 37 = .ok (.putfield 116, 3) := by decide +kernel
theorem dX11_back_40 : decode cX11_back 40 = .ok (.aload_n 0, 1) := by decide +kernel
theorem dX11_back_41 : decode cX11_back 41 = .ok (.getfield 46, 3) := by decide +kernel
theorem dX11_back_44 : decode cX11_back 44 = .ok (.getfield 160, 3) := by decide +kernel
theorem dX11_back_47 : decode cX11_back 47 = .ok (.ireturn, 1) := by decide +kernel
theorem dX11_count_0 : decode cX11_count 0 = .ok (.iload_n 1, 1) := by decide +kernel
theorem dX11_count_1 : decode cX11_count 1 = .ok (.tableswitch 72 0 4 #[35, 43, 51, 59, 64], 35) := by decide +kernel
theorem dX11_count_36 : decode cX11_count 36 = .ok (.aload_n 0, 1) := by decide +kernel
theorem dX11_count_37 : decode cX11_count 37 = .ok (.getfield 39, 3) := by decide +kernel
theorem dX11_count_40 : decode cX11_count 40 = .ok (.getfield 181, 3) := by decide +kernel
theorem dX11_count_43 : decode cX11_count 43 = .ok (.ireturn, 1) := by decide +kernel
theorem dX11_count_44 : decode cX11_count 44 = .ok (.aload_n 0, 1) := by decide +kernel
theorem dX11_count_45 : decode cX11_count 45 = .ok (.getfield 39, 3) := by decide +kernel
theorem dX11_count_48 : decode cX11_count 48 = .ok (.getfield 227, 3) := by decide +kernel
theorem dX11_count_51 : decode cX11_count 51 = .ok (.ireturn, 1) := by decide +kernel
theorem dX11_count_52 : decode cX11_count 52 = .ok (.aload_n 0, 1) := by decide +kernel
theorem dX11_count_53 : decode cX11_count 53 = .ok (.getfield 39, 3) := by decide +kernel
theorem dX11_count_56 : decode cX11_count 56 = .ok (.getfield 263, 3) := by decide +kernel
theorem dX11_count_59 : decode cX11_count 59 = .ok (.ireturn, 1) := by decide +kernel
theorem dX11_count_60 : decode cX11_count 60 = .ok (.aload_n 0, 1) := by decide +kernel
theorem dX11_count_61 : decode cX11_count 61 = .ok (.getfield 119, 3) := by decide +kernel
theorem dX11_count_64 : decode cX11_count 64 = .ok (.ireturn, 1) := by decide +kernel
theorem dX11_count_65 : decode cX11_count 65 = .ok (.aload_n 0, 1) := by decide +kernel
theorem dX11_count_66 : decode cX11_count 66 = .ok (.getfield 10, 3) := by decide +kernel
theorem dX11_count_69 : decode cX11_count 69 = .ok (.getfield 93, 3) := by decide +kernel
theorem dX11_count_72 : decode cX11_count 72 = .ok (.ireturn, 1) := by decide +kernel
theorem dX11_count_73 : decode cX11_count 73 = .ok (.iconst (-1), 1) := by decide +kernel
theorem dX11_count_74 : decode cX11_count 74 = .ok (.ireturn, 1) := by decide +kernel
theorem dX11_trace_0 : decode cX11_trace 0 = .ok (.aload_n 0, 1) := by decide +kernel
theorem dX11_trace_1 : decode cX11_trace 1 = .ok (.getfield 26, 3) := by decide +kernel
theorem dX11_trace_4 : decode cX11_trace 4 = .ok (.getfield 266, 3) := by decide +kernel
theorem dX11_trace_7 : decode cX11_trace 7 = .ok (.lreturn, 1) := by decide +kernel
theorem dX11_isGuest_0 : decode cX11_isGuest 0 = .ok (.iload_n 1, 1) := by decide +kernel
theorem dX11_isGuest_1 : decode cX11_isGuest 1 = .ok (.ifCond .lt 18, 3) := by decide +kernel
theorem dX11_isGuest_4 : decode cX11_isGuest 4 = .ok (.iload_n 1, 1) := by decide +kernel
theorem dX11_isGuest_5 : decode cX11_isGuest 5 = .ok (.aload_n 0, 1) := by decide +kernel
theorem dX11_isGuest_6 : decode cX11_isGuest 6 = .ok (.getfield 39, 3) := by decide +kernel
theorem dX11_isGuest_9 : decode cX11_isGuest 9 = .ok (.getfield 227, 3) := by decide +kernel
theorem dX11_isGuest_12 : decode cX11_isGuest 12 = .ok (.if_icmp .ge 7, 3) := by decide +kernel
theorem dX11_isGuest_15 : decode cX11_isGuest 15 = .ok (.iconst 1, 1) := by decide +kernel
theorem dX11_isGuest_16 : decode cX11_isGuest 16 = .ok (.goto 4, 3) := by decide +kernel
theorem dX11_isGuest_19 : decode cX11_isGuest 19 = .ok (.iconst 0, 1) := by decide +kernel
theorem dX11_isGuest_20 : decode cX11_isGuest 20 = .ok (.ireturn, 1) := by decide +kernel
theorem dX11_isDish_0 : decode cX11_isDish 0 = .ok (.iload_n 1, 1) := by decide +kernel
theorem dX11_isDish_1 : decode cX11_isDish 1 = .ok (.ifCond .lt 18, 3) := by decide +kernel
theorem dX11_isDish_4 : decode cX11_isDish 4 = .ok (.iload_n 1, 1) := by decide +kernel
theorem dX11_isDish_5 : decode cX11_isDish 5 = .ok (.aload_n 0, 1) := by decide +kernel
theorem dX11_isDish_6 : decode cX11_isDish 6 = .ok (.getfield 39, 3) := by decide +kernel
theorem dX11_isDish_9 : decode cX11_isDish 9 = .ok (.getfield 263, 3) := by decide +kernel
theorem dX11_isDish_12 : decode cX11_isDish 12 = .ok (.if_icmp .ge 7, 3) := by decide +kernel
theorem dX11_isDish_15 : decode cX11_isDish 15 = .ok (.iconst 1, 1) := by decide +kernel
theorem dX11_isDish_16 : decode cX11_isDish 16 = .ok (.goto 4, 3) := by decide +kernel
theorem dX11_isDish_19 : decode cX11_isDish 19 = .ok (.iconst 0, 1) := by decide +kernel
theorem dX11_isDish_20 : decode cX11_isDish 20 = .ok (.ireturn, 1) := by decide +kernel
theorem dX11_isTurn_0 : decode cX11_isTurn 0 = .ok (.iload_n 1, 1) := by decide +kernel
theorem dX11_isTurn_1 : decode cX11_isTurn 1 = .ok (.ifCond .lt 18, 3) := by decide +kernel
theorem dX11_isTurn_4 : decode cX11_isTurn 4 = .ok (.iload_n 1, 1) := by decide +kernel
theorem dX11_isTurn_5 : decode cX11_isTurn 5 = .ok (.aload_n 0, 1) := by decide +kernel
theorem dX11_isTurn_6 : decode cX11_isTurn 6 = .ok (.getfield 39, 3) := by decide +kernel
theorem dX11_isTurn_9 : decode cX11_isTurn 9 = .ok (.getfield 181, 3) := by decide +kernel
theorem dX11_isTurn_12 : decode cX11_isTurn 12 = .ok (.if_icmp .ge 7, 3) := by decide +kernel
theorem dX11_isTurn_15 : decode cX11_isTurn 15 = .ok (.iconst 1, 1) := by decide +kernel
theorem dX11_isTurn_16 : decode cX11_isTurn 16 = .ok (.goto 4, 3) := by decide +kernel
theorem dX11_isTurn_19 : decode cX11_isTurn 19 = .ok (.iconst 0, 1) := by decide +kernel
theorem dX11_isTurn_20 : decode cX11_isTurn 20 = .ok (.ireturn, 1) := by decide +kernel
theorem dX11_isImage_0 : decode cX11_isImage 0 = .ok (.iload_n 1, 1) := by decide +kernel
theorem dX11_isImage_1 : decode cX11_isImage 1 = .ok (.ifCond .lt 12, 3) := by decide +kernel
theorem dX11_isImage_4 : decode cX11_isImage 4 = .ok (.iload_n 1, 1) := by decide +kernel
theorem dX11_isImage_5 : decode cX11_isImage 5 = .ok (.iconst 2, 1) := by decide +kernel
theorem dX11_isImage_6 : decode cX11_isImage 6 = .ok (.if_icmp .ge 7, 3) := by decide +kernel
theorem dX11_isImage_9 : decode cX11_isImage 9 = .ok (.iconst 1, 1) := by decide +kernel
theorem dX11_isImage_10 : decode cX11_isImage 10 = .ok (.goto 4, 3) := by decide +kernel
theorem dX11_isImage_13 : decode cX11_isImage 13 = .ok (.iconst 0, 1) := by decide +kernel
theorem dX11_isImage_14 : decode cX11_isImage 14 = .ok (.ireturn, 1) := by decide +kernel
theorem dX11_isBit_0 : decode cX11_isBit 0 = .ok (.iload_n 0, 1) := by decide +kernel
theorem dX11_isBit_1 : decode cX11_isBit 1 = .ok (.ifCond .eq 8, 3) := by decide +kernel
theorem dX11_isBit_4 : decode cX11_isBit 4 = .ok (.iload_n 0, 1) := by decide +kernel
theorem dX11_isBit_5 : decode cX11_isBit 5 = .ok (.iconst 1, 1) := by decide +kernel
theorem dX11_isBit_6 : decode cX11_isBit 6 = .ok (.if_icmp .ne 7, 3) := by decide +kernel
theorem dX11_isBit_9 : decode cX11_isBit 9 = .ok (.iconst 1, 1) := by decide +kernel
theorem dX11_isBit_10 : decode cX11_isBit 10 = .ok (.goto 4, 3) := by decide +kernel
theorem dX11_isBit_13 : decode cX11_isBit 13 = .ok (.iconst 0, 1) := by decide +kernel
theorem dX11_isBit_14 : decode cX11_isBit 14 = .ok (.ireturn, 1) := by decide +kernel
theorem dX11_isEmpty_0 : decode cX11_isEmpty 0 = .ok (.iconst 0, 1) := by decide +kernel
theorem dX11_isEmpty_1 : decode cX11_isEmpty 1 = .ok (.istore_n 2, 1) := by decide +kernel
theorem dX11_isEmpty_2 : decode cX11_isEmpty 2 = .ok (.iload_n 2, 1) := by decide +kernel
theorem dX11_isEmpty_3 : decode cX11_isEmpty 3 = .ok (.aload_n 0, 1) := by decide +kernel
theorem dX11_isEmpty_4 : decode cX11_isEmpty 4 = .ok (.getfield 39, 3) := by decide +kernel
theorem dX11_isEmpty_7 : decode cX11_isEmpty 7 = .ok (.getfield 263, 3) := by decide +kernel
theorem dX11_isEmpty_10 : decode cX11_isEmpty 10 = .ok (.if_icmp .ge 24, 3) := by decide +kernel
theorem dX11_isEmpty_13 : decode cX11_isEmpty 13 = .ok (.aload_n 0, 1) := by decide +kernel
theorem dX11_isEmpty_14 : decode cX11_isEmpty 14 = .ok (.getfield 46, 3) := by decide +kernel
theorem dX11_isEmpty_17 : decode cX11_isEmpty 17 = .ok (.getfield 148, 3) := by decide +kernel
theorem dX11_isEmpty_20 : decode cX11_isEmpty 20 = .ok (.iload_n 2, 1) := by decide +kernel
theorem dX11_isEmpty_21 : decode cX11_isEmpty 21 = .ok (.iaload, 1) := by decide +kernel
theorem dX11_isEmpty_22 : decode cX11_isEmpty 22 = .ok (.iload_n 1, 1) := by decide +kernel
theorem dX11_isEmpty_23 : decode cX11_isEmpty 23 = .ok (.if_icmp .ne 5, 3) := by decide +kernel
theorem dX11_isEmpty_26 : decode cX11_isEmpty 26 = .ok (.iconst 0, 1) := by decide +kernel
theorem dX11_isEmpty_27 : decode cX11_isEmpty 27 = .ok (.ireturn, 1) := by decide +kernel
theorem dX11_isEmpty_28 : decode cX11_isEmpty 28 = .ok (.iinc 2 1, 3) := by decide +kernel
theorem dX11_isEmpty_31 : decode cX11_isEmpty 31 = .ok (.goto (-29), 3) := by decide +kernel
theorem dX11_isEmpty_34 : decode cX11_isEmpty 34 = .ok (.iconst 1, 1) := by decide +kernel
theorem dX11_isEmpty_35 : decode cX11_isEmpty 35 = .ok (.ireturn, 1) := by decide +kernel
theorem dX11_allPortions_0 : decode cX11_allPortions 0 = .ok (.iconst 0, 1) := by decide +kernel
theorem dX11_allPortions_1 : decode cX11_allPortions 1 = .ok (.istore_n 1, 1) := by decide +kernel
theorem dX11_allPortions_2 : decode cX11_allPortions 2 = .ok (.iconst 0, 1) := by decide +kernel
theorem dX11_allPortions_3 : decode cX11_allPortions 3 = .ok (.istore_n 2, 1) := by decide +kernel
theorem dX11_allPortions_4 : decode cX11_allPortions 4 = .ok (.iload_n 2, 1) := by decide +kernel
theorem dX11_allPortions_5 : decode cX11_allPortions 5 = .ok (.aload_n 0, 1) := by decide +kernel
theorem dX11_allPortions_6 : decode cX11_allPortions 6 = .ok (.getfield 39, 3) := by decide +kernel
theorem dX11_allPortions_9 : decode cX11_allPortions 9 = .ok (.getfield 263, 3) := by decide +kernel
theorem dX11_allPortions_12 : decode cX11_allPortions 12 = .ok (.if_icmp .ge 21, 3) := by decide +kernel
theorem dX11_allPortions_15 : decode cX11_allPortions 15 = .ok (.iload_n 1, 1) := by decide +kernel
theorem dX11_allPortions_16 : decode cX11_allPortions 16 = .ok (.aload_n 0, 1) := by decide +kernel
theorem dX11_allPortions_17 : decode cX11_allPortions 17 = .ok (.getfield 46, 3) := by decide +kernel
theorem dX11_allPortions_20 : decode cX11_allPortions 20 = .ok (.getfield 151, 3) := by decide +kernel
theorem dX11_allPortions_23 : decode cX11_allPortions 23 = .ok (.iload_n 2, 1) := by decide +kernel
theorem dX11_allPortions_24 : decode cX11_allPortions 24 = .ok (.iaload, 1) := by decide +kernel
theorem dX11_allPortions_25 : decode cX11_allPortions 25 = .ok (.iadd, 1) := by decide +kernel
theorem dX11_allPortions_26 : decode cX11_allPortions 26 = .ok (.istore_n 1, 1) := by decide +kernel
theorem dX11_allPortions_27 : decode cX11_allPortions 27 = .ok (.iinc 2 1, 3) := by decide +kernel
theorem dX11_allPortions_30 : decode cX11_allPortions 30 = .ok (.goto (-26), 3) := by decide +kernel
theorem dX11_allPortions_33 : decode cX11_allPortions 33 = .ok (.iload_n 1, 1) := by decide +kernel
theorem dX11_allPortions_34 : decode cX11_allPortions 34 = .ok (.ireturn, 1) := by decide +kernel
theorem dX11_remember_0 : decode cX11_remember 0 = .ok (.aload_n 0, 1) := by decide +kernel
theorem dX11_remember_1 : decode cX11_remember 1 = .ok (.getfield 116, 3) := by decide +kernel
theorem dX11_remember_4 : decode cX11_remember 4 = .ok (.bipush 10, 2) := by decide +kernel
theorem dX11_remember_6 : decode cX11_remember 6 = .ok (.if_icmp .lt 52, 3) := by decide +kernel
theorem dX11_remember_9 : decode cX11_remember 9 = .ok (.aload_n 0, 1) := by decide +kernel
theorem dX11_remember_10 : decode cX11_remember 10 = .ok (.getfield 53, 3) := by decide +kernel
theorem dX11_remember_13 : decode cX11_remember 13 = .ok (.iconst 0, 1) := by decide +kernel
theorem dX11_remember_14 : decode cX11_remember 14 = .ok (.aaload, 1) := by decide +kernel
theorem dX11_remember_15 : decode cX11_remember 15 = .ok (.astore_n 1, 1) := by decide +kernel
theorem dX11_remember_16 : decode cX11_remember 16 = .ok (.iconst 1, 1) := by decide +kernel
theorem dX11_remember_17 : decode cX11_remember 17 = .ok (.istore_n 2, 1) := by decide +kernel
theorem dX11_remember_18 : decode cX11_remember 18 = .ok (.iload_n 2, 1) := by decide +kernel
theorem dX11_remember_19 : decode cX11_remember 19 = .ok (.bipush 10, 2) := by decide +kernel
theorem dX11_remember_21 : decode cX11_remember 21 = .ok (.if_icmp .ge 23, 3) := by decide +kernel
theorem dX11_remember_24 : decode cX11_remember 24 = .ok (.aload_n 0, 1) := by decide +kernel
theorem dX11_remember_25 : decode cX11_remember 25 = .ok (.getfield 53, 3) := by decide +kernel
theorem dX11_remember_28 : decode cX11_remember 28 = .ok (.iload_n 2, 1) := by decide +kernel
theorem dX11_remember_29 : decode cX11_remember 29 = .ok (.iconst 1, 1) := by decide +kernel
theorem dX11_remember_30 : decode cX11_remember 30 = .ok (.isub, 1) := by decide +kernel
theorem dX11_remember_31 : decode cX11_remember 31 = .ok (.aload_n 0, 1) := by decide +kernel
theorem dX11_remember_32 : decode cX11_remember 32 = .ok (.getfield 53, 3) := by decide +kernel
theorem dX11_remember_35 : decode cX11_remember 35 = .ok (.iload_n 2, 1) := by decide +kernel
theorem dX11_remember_36 : decode cX11_remember 36 = .ok (.aaload, 1) := by decide +kernel
theorem dX11_remember_37 : decode cX11_remember 37 = .ok (.aastore, 1) := by decide +kernel
theorem dX11_remember_38 : decode cX11_remember 38 = .ok (.iinc 2 1, 3) := by decide +kernel
theorem dX11_remember_41 : decode cX11_remember 41 = .ok (.goto (-23), 3) := by decide +kernel
theorem dX11_remember_44 : decode cX11_remember 44 = .ok (.aload_n 0, 1) := by decide +kernel
theorem dX11_remember_45 : decode cX11_remember 45 = .ok (.getfield 53, 3) := by decide +kernel
theorem dX11_remember_48 : decode cX11_remember 48 = .ok (.bipush 9, 2) := by decide +kernel
theorem dX11_remember_50 : decode cX11_remember 50 = .ok (.aload_n 1, 1) := by decide +kernel
theorem dX11_remember_51 : decode cX11_remember 51 = .ok (.aastore, 1) := by decide +kernel
theorem dX11_remember_52 : decode cX11_remember 52 = .ok (.aload_n 0, 1) := by decide +kernel
theorem dX11_remember_53 : decode cX11_remember 53 = .ok (.bipush 9, 2) := by decide +kernel
theorem dX11_remember_55 : decode cX11_remember 55 = .ok (.putfield 116, 3) := by decide +kernel
theorem dX11_remember_58 : decode cX11_remember 58 = .ok (.aload_n 0, 1) := by decide +kernel
theorem dX11_remember_59 : decode cX11_remember 59 = .ok (.getfield 53, 3) := by decide +kernel
theorem dX11_remember_62 : decode cX11_remember 62 = .ok (.aload_n 0, 1) := by decide +kernel
theorem dX11_remember_63 : decode cX11_remember 63 = .ok (.getfield 116, 3) := by decide +kernel
theorem dX11_remember_66 : decode cX11_remember 66 = .ok (.aaload, 1) := by decide +kernel
theorem dX11_remember_67 : decode cX11_remember 67 = .ok (.aload_n 0, 1) := by decide +kernel
theorem dX11_remember_68 : decode cX11_remember 68 = .ok (.getfield 46, 3) := by decide +kernel
theorem dX11_remember_71 : decode cX11_remember 71 = .ok (.invokevirtual 112, 3) := by decide +kernel
theorem dX11_remember_74 : decode cX11_remember 74 = .ok (.aload_n 0, 1) := by decide +kernel
theorem dX11_remember_75 : decode cX11_remember 75 = .ok (.dup, 1) := by decide +kernel
theorem dX11_remember_76 : decode cX11_remember 76 = .ok (.getfield 116, 3) := by decide +kernel
theorem dX11_remember_79 : decode cX11_remember 79 = .ok (.iconst 1, 1) := by decide +kernel
theorem dX11_remember_80 : decode cX11_remember 80 = .ok (.iadd, 1) := by decide +kernel
theorem dX11_remember_81 : decode cX11_remember 81 = .ok (.putfield 116, 3) := by decide +kernel
theorem dX11_remember_84 : decode cX11_remember 84 = .ok (.return_, 1) := by decide +kernel
theorem dX11_spill_0 : decode cX11_spill 0 = .ok (.iconst 0, 1) := by decide +kernel
theorem dX11_spill_1 : decode cX11_spill 1 = .ok (.istore_n 1, 1) := by decide +kernel
theorem dX11_spill_2 : decode cX11_spill 2 = .ok (.iconst 0, 1) := by decide +kernel
theorem dX11_spill_3 : decode cX11_spill 3 = .ok (.istore_n 2, 1) := by decide +kernel
theorem dX11_spill_4 : decode cX11_spill 4 = .ok (.iload_n 2, 1) := by decide +kernel
theorem dX11_spill_5 : decode cX11_spill 5 = .ok (.aload_n 0, 1) := by decide +kernel
theorem dX11_spill_6 : decode cX11_spill 6 = .ok (.getfield 39, 3) := by decide +kernel
theorem dX11_spill_9 : decode cX11_spill 9 = .ok (.getfield 263, 3) := by decide +kernel
theorem dX11_spill_12 : decode cX11_spill 12 = .ok (.if_icmp .ge 50, 3) := by decide +kernel
theorem dX11_spill_15 : decode cX11_spill 15 = .ok (.aload_n 0, 1) := by decide +kernel
theorem dX11_spill_16 : decode cX11_spill 16 = .ok (.getfield 39, 3) := by decide +kernel
theorem dX11_spill_19 : decode cX11_spill 19 = .ok (.getfield 154, 3) := by decide +kernel
theorem dX11_spill_22 : decode cX11_spill 22 = .ok (.iload_n 2, 1) := by decide +kernel
theorem dX11_spill_23 : decode cX11_spill 23 = .ok (.iaload, 1) := by decide +kernel
theorem dX11_spill_24 : decode cX11_spill 24 = .ok (.iconst 1, 1) := by decide +kernel
theorem dX11_spill_25 : decode cX11_spill 25 = .ok (.if_icmp .ne 31, 3) := by decide +kernel
theorem dX11_spill_28 : decode cX11_spill 28 = .ok (.aload_n 0, 1) := by decide +kernel
theorem dX11_spill_29 : decode cX11_spill 29 = .ok (.getfield 46, 3) := by decide +kernel
theorem dX11_spill_32 : decode cX11_spill 32 = .ok (.getfield 151, 3) := by decide +kernel
theorem dX11_spill_35 : decode cX11_spill 35 = .ok (.iload_n 2, 1) := by decide +kernel
theorem dX11_spill_36 : decode cX11_spill 36 = .ok (.iaload, 1) := by decide +kernel
theorem dX11_spill_37 : decode cX11_spill 37 = .ok (.ifCond .le 19, 3) := by decide +kernel
theorem dX11_spill_40 : decode cX11_spill 40 = .ok (.aload_n 0, 1) := by decide +kernel
theorem dX11_spill_41 : decode cX11_spill 41 = .ok (.getfield 46, 3) := by decide +kernel
theorem dX11_spill_44 : decode cX11_spill 44 = .ok (.getfield 151, 3) := by decide +kernel
theorem dX11_spill_47 : decode cX11_spill 47 = .ok (.iload_n 2, 1) := by decide +kernel
theorem dX11_spill_48 : decode cX11_spill 48 = .ok (.dup2, 1) := by decide +kernel
theorem dX11_spill_49 : decode cX11_spill 49 = .ok (.iaload, 1) := by decide +kernel
theorem dX11_spill_50 : decode cX11_spill 50 = .ok (.iconst 1, 1) := by decide +kernel
theorem dX11_spill_51 : decode cX11_spill 51 = .ok (.isub, 1) := by decide +kernel
theorem dX11_spill_52 : decode cX11_spill 52 = .ok (.iastore, 1) := by decide +kernel
theorem dX11_spill_53 : decode cX11_spill 53 = .ok (.iinc 1 1, 3) := by decide +kernel
theorem dX11_spill_56 : decode cX11_spill 56 = .ok (.iinc 2 1, 3) := by decide +kernel
theorem dX11_spill_59 : decode cX11_spill 59 = .ok (.goto (-55), 3) := by decide +kernel
theorem dX11_spill_62 : decode cX11_spill 62 = .ok (.iload_n 1, 1) := by decide +kernel
theorem dX11_spill_63 : decode cX11_spill 63 = .ok (.ireturn, 1) := by decide +kernel
theorem dX11_swap_0 : decode cX11_swap 0 = .ok (.bipush (-9), 2) := by decide +kernel
theorem dX11_swap_2 : decode cX11_swap 2 = .ok (.istore_n 1, 1) := by decide +kernel
theorem dX11_swap_3 : decode cX11_swap 3 = .ok (.aload_n 0, 1) := by decide +kernel
theorem dX11_swap_4 : decode cX11_swap 4 = .ok (.getfield 39, 3) := by decide +kernel
theorem dX11_swap_7 : decode cX11_swap 7 = .ok (.aload_n 0, 1) := by decide +kernel
theorem dX11_swap_8 : decode cX11_swap 8 = .ok (.getfield 46, 3) := by decide +kernel
theorem dX11_swap_11 : decode cX11_swap 11 = .ok (.invokevirtual 170, 3) := by decide +kernel
theorem dX11_swap_14 : decode cX11_swap 14 = .ok (.istore_n 2, 1) := by decide +kernel
theorem dX11_swap_15 : decode cX11_swap 15 = .ok (.aload_n 0, 1) := by decide +kernel
theorem dX11_swap_16 : decode cX11_swap 16 = .ok (.getfield 50, 3) := by decide +kernel
theorem dX11_swap_19 : decode cX11_swap 19 = .ok (.aload_n 0, 1) := by decide +kernel
theorem dX11_swap_20 : decode cX11_swap 20 = .ok (.getfield 46, 3) := by decide +kernel
theorem dX11_swap_23 : decode cX11_swap 23 = .ok (.invokevirtual 112, 3) := by decide +kernel
theorem dX11_swap_26 : decode cX11_swap 26 = .ok (.iconst 0, 1) := by decide +kernel
theorem dX11_swap_27 : decode cX11_swap 27 = .ok (.istore_n 3, 1) := by decide +kernel
theorem dX11_swap_28 : decode cX11_swap 28 = .ok (.iload_n 3, 1) := by decide +kernel
theorem dX11_swap_29 : decode cX11_swap 29 = .ok (.aload_n 0, 1) := by decide +kernel
theorem dX11_swap_30 : decode cX11_swap 30 = .ok (.getfield 39, 3) := by decide +kernel
theorem dX11_swap_33 : decode cX11_swap 33 = .ok (.getfield 227, 3) := by decide +kernel
theorem dX11_swap_36 : decode cX11_swap 36 = .ok (.if_icmp .ge 82, 3) := by decide +kernel
theorem dX11_swap_39 : decode cX11_swap 39 = .ok (.iload_n 3, 1) := by decide +kernel
theorem dX11_swap_40 : decode cX11_swap 40 = .ok (.iconst 1, 1) := by decide +kernel
theorem dX11_swap_41 : decode cX11_swap 41 = .ok (.iadd, 1) := by decide +kernel
theorem dX11_swap_42 : decode cX11_swap 42 = .ok (.istore 4, 2) := by decide +kernel
theorem dX11_swap_44 : decode cX11_swap 44 = .ok (.iload 4, 2) := by decide +kernel
theorem dX11_swap_46 : decode cX11_swap 46 = .ok (.aload_n 0, 1) := by decide +kernel
theorem dX11_swap_47 : decode cX11_swap 47 = .ok (.getfield 39, 3) := by decide +kernel
theorem dX11_swap_50 : decode cX11_swap 50 = .ok (.getfield 227, 3) := by decide +kernel
theorem dX11_swap_53 : decode cX11_swap 53 = .ok (.if_icmp .ge 59, 3) := by decide +kernel
theorem dX11_swap_56 : decode cX11_swap 56 = .ok (.aload_n 0, 1) := by decide +kernel
theorem dX11_swap_57 : decode cX11_swap 57 = .ok (.getfield 50, 3) := by decide +kernel
theorem dX11_swap_60 : decode cX11_swap 60 = .ok (.iload_n 3, 1) := by decide +kernel
theorem dX11_swap_61 : decode cX11_swap 61 = .ok (.iload 4, 2) := by decide +kernel
theorem dX11_swap_63 : decode cX11_swap 63 = .ok (.invokevirtual 207, 3) := by decide +kernel
theorem dX11_swap_66 : decode cX11_swap 66 = .ok (.aload_n 0, 1) := by decide +kernel
theorem dX11_swap_67 : decode cX11_swap 67 = .ok (.getfield 39, 3) := by decide +kernel
theorem dX11_swap_70 : decode cX11_swap 70 = .ok (.aload_n 0, 1) := by decide +kernel
theorem dX11_swap_71 : decode cX11_swap 71 = .ok (.getfield 50, 3) := by decide +kernel
theorem dX11_swap_74 : decode cX11_swap 74 = .ok (.invokevirtual 170, 3) := by decide +kernel
theorem dX11_swap_77 : decode cX11_swap 77 = .ok (.istore 5, 2) := by decide +kernel
theorem dX11_swap_79 : decode cX11_swap 79 = .ok (.iload 5, 2) := by decide +kernel
theorem dX11_swap_81 : decode cX11_swap 81 = .ok (.iload_n 2, 1) := by decide +kernel
theorem dX11_swap_82 : decode cX11_swap 82 = .ok (.if_icmp .ge 14, 3) := by decide +kernel
theorem dX11_swap_85 : decode cX11_swap 85 = .ok (.iload 5, 2) := by decide +kernel
theorem dX11_swap_87 : decode cX11_swap 87 = .ok (.istore_n 2, 1) := by decide +kernel
theorem dX11_swap_88 : decode cX11_swap 88 = .ok (.bipush 10, 2) := by decide +kernel
theorem dX11_swap_90 : decode cX11_swap 90 = .ok (.iload_n 3, 1) := by decide +kernel
theorem dX11_swap_91 : decode cX11_swap 91 = .ok (.imul, 1) := by decide +kernel
theorem dX11_swap_92 : decode cX11_swap 92 = .ok (.iload 4, 2) := by decide +kernel
theorem dX11_swap_94 : decode cX11_swap 94 = .ok (.iadd, 1) := by decide +kernel
theorem dX11_swap_95 : decode cX11_swap 95 = .ok (.istore_n 1, 1) := by decide +kernel
theorem dX11_swap_96 : decode cX11_swap 96 = .ok (.aload_n 0, 1) := by decide +kernel
theorem dX11_swap_97 : decode cX11_swap 97 = .ok (.getfield 50, 3) := by decide +kernel
theorem dX11_swap_100 : decode cX11_swap 100 = .ok (.iload_n 3, 1) := by decide +kernel
theorem dX11_swap_101 : decode cX11_swap 101 = .ok (.iload 4, 2) := by decide +kernel
theorem dX11_swap_103 : decode cX11_swap 103 = .ok (.invokevirtual 207, 3) := by decide +kernel
theorem dX11_swap_106 : decode cX11_swap 106 = .ok (.iinc 4 1, 3) := by decide +kernel
theorem dX11_swap_109 : decode cX11_swap 109 = .ok (.goto (-65), 3) := by decide +kernel
theorem dX11_swap_112 : decode cX11_swap 112 = .ok (.iinc 3 1, 3) := by decide +kernel
theorem dX11_swap_115 : decode cX11_swap 115 = .ok (.goto (-87), 3) := by decide +kernel
theorem dX11_swap_118 : decode cX11_swap 118 = .ok (.iload_n 1, 1) := by decide +kernel
theorem dX11_swap_119 : decode cX11_swap 119 = .ok (.ireturn, 1) := by decide +kernel
theorem dX11_spreadChances_0 : decode cX11_spreadChances 0 = .ok (.aload_n 0, 1) := by decide +kernel
theorem dX11_spreadChances_1 : decode cX11_spreadChances 1 = .ok (.getfield 74, 3) := by decide +kernel
theorem dX11_spreadChances_4 : decode cX11_spreadChances 4 = .ok (.iconst 0, 1) := by decide +kernel
theorem dX11_spreadChances_5 : decode cX11_spreadChances 5 = .ok (.invokestatic 270, 3) := by decide +kernel
theorem dX11_spreadChances_8 : decode cX11_spreadChances 8 = .ok (.aload_n 0, 1) := by decide +kernel
theorem dX11_spreadChances_9 : decode cX11_spreadChances 9 = .ok (.getfield 74, 3) := by decide +kernel
theorem dX11_spreadChances_12 : decode cX11_spreadChances 12 = .ok (.aload_n 0, 1) := by decide +kernel
theorem dX11_spreadChances_13 : decode cX11_spreadChances 13 = .ok (.getfield 46, 3) := by decide +kernel
theorem dX11_spreadChances_16 : decode cX11_spreadChances 16 = .ok (.getfield 160, 3) := by decide +kernel
theorem dX11_spreadChances_19 : decode cX11_spreadChances 19 = .ok (.iconst 1, 1) := by decide +kernel
theorem dX11_spreadChances_20 : decode cX11_spreadChances 20 = .ok (.iastore, 1) := by decide +kernel
theorem dX11_spreadChances_21 : decode cX11_spreadChances 21 = .ok (.iconst 1, 1) := by decide +kernel
theorem dX11_spreadChances_22 : decode cX11_spreadChances 22 = .ok (.istore_n 2, 1) := by decide +kernel
theorem dX11_spreadChances_23 : decode cX11_spreadChances 23 = .ok (.aload_n 0, 1) := by decide +kernel
theorem dX11_spreadChances_24 : decode cX11_spreadChances 24 = .ok (.getfield 39, 3) := by decide +kernel
theorem dX11_spreadChances_27 : decode cX11_spreadChances 27 = .ok (.getfield 181, 3) := by decide +kernel
theorem dX11_spreadChances_30 : decode cX11_spreadChances 30 = .ok (.iconst 1, 1) := by decide +kernel
theorem dX11_spreadChances_31 : decode cX11_spreadChances 31 = .ok (.isub, 1) := by decide +kernel
theorem dX11_spreadChances_32 : decode cX11_spreadChances 32 = .ok (.istore_n 3, 1) := by decide +kernel
theorem dX11_spreadChances_33 : decode cX11_spreadChances 33 = .ok (.iconst 0, 1) := by decide +kernel
theorem dX11_spreadChances_34 : decode cX11_spreadChances 34 = .ok (.istore 4, 2) := by decide +kernel
theorem dX11_spreadChances_36 : decode cX11_spreadChances 36 = .ok (.iload 4, 2) := by decide +kernel
theorem dX11_spreadChances_38 : decode cX11_spreadChances 38 = .ok (.aload_n 0, 1) := by decide +kernel
theorem dX11_spreadChances_39 : decode cX11_spreadChances 39 = .ok (.getfield 39, 3) := by decide +kernel
theorem dX11_spreadChances_42 : decode cX11_spreadChances 42 = .ok (.getfield 227, 3) := by decide +kernel
theorem dX11_spreadChances_45 : decode cX11_spreadChances 45 = .ok (.if_icmp .ge 89, 3) := by decide +kernel
theorem dX11_spreadChances_48 : decode cX11_spreadChances 48 = .ok (.aload_n 0, 1) := by decide +kernel
theorem dX11_spreadChances_49 : decode cX11_spreadChances 49 = .ok (.getfield 74, 3) := by decide +kernel
theorem dX11_spreadChances_52 : decode cX11_spreadChances 52 = .ok (.iload_n 3, 1) := by decide +kernel
theorem dX11_spreadChances_53 : decode cX11_spreadChances 53 = .ok (.iaload, 1) := by decide +kernel
theorem dX11_spreadChances_54 : decode cX11_spreadChances 54 = .ok (.iload_n 1, 1) := by decide +kernel
theorem dX11_spreadChances_55 : decode cX11_spreadChances 55 = .ok (.imul, 1) := by decide +kernel
theorem dX11_spreadChances_56 : decode cX11_spreadChances 56 = .ok (.istore 5, 2) := by decide +kernel
theorem dX11_spreadChances_58 : decode cX11_spreadChances 58 = .ok (.iload_n 3, 1) := by decide +kernel
theorem dX11_spreadChances_59 : decode cX11_spreadChances 59 = .ok (.istore 6, 2) := by decide +kernel
theorem dX11_spreadChances_61 : decode cX11_spreadChances 61 = .ok (.iload 6, 2) := by decide +kernel
theorem dX11_spreadChances_63 : decode cX11_spreadChances 63 = .ok (.ifCond .le 40, 3) := by decide +kernel
theorem dX11_spreadChances_66 : decode cX11_spreadChances 66 = .ok (.aload_n 0, 1) := by decide +kernel
theorem dX11_spreadChances_67 : decode cX11_spreadChances 67 = .ok (.getfield 74, 3) := by decide +kernel
theorem dX11_spreadChances_70 : decode cX11_spreadChances 70 = .ok (.iload 6, 2) := by decide +kernel
theorem dX11_spreadChances_72 : decode cX11_spreadChances 72 = .ok (.aload_n 0, 1) := by decide +kernel
theorem dX11_spreadChances_73 : decode cX11_spreadChances 73 = .ok (.getfield 74, 3) := by decide +kernel
theorem dX11_spreadChances_76 : decode cX11_spreadChances 76 = .ok (.iload 6, 2) := by decide +kernel
theorem dX11_spreadChances_78 : decode cX11_spreadChances 78 = .ok (.iaload, 1) := by decide +kernel
theorem dX11_spreadChances_79 : decode cX11_spreadChances 79 = .ok (.bipush 10, 2) := by decide +kernel
theorem dX11_spreadChances_81 : decode cX11_spreadChances 81 = .ok (.iload_n 1, 1) := by decide +kernel
theorem dX11_spreadChances_82 : decode cX11_spreadChances 82 = .ok (.isub, 1) := by decide +kernel
theorem dX11_spreadChances_83 : decode cX11_spreadChances 83 = .ok (.imul, 1) := by decide +kernel
theorem dX11_spreadChances_84 : decode cX11_spreadChances 84 = .ok (.aload_n 0, 1) := by decide +kernel
theorem dX11_spreadChances_85 : decode cX11_spreadChances 85 = .ok (.getfield 74, 3) := by decide +kernel
theorem dX11_spreadChances_88 : decode cX11_spreadChances 88 = .ok (.iload 6, 2) := by decide +kernel
theorem dX11_spreadChances_90 : decode cX11_spreadChances 90 = .ok (.iconst 1, 1) := by decide +kernel
theorem dX11_spreadChances_91 : decode cX11_spreadChances 91 = .ok (.isub, 1) := by decide +kernel
theorem dX11_spreadChances_92 : decode cX11_spreadChances 92 = .ok (.iaload, 1) := by decide +kernel
theorem dX11_spreadChances_93 : decode cX11_spreadChances 93 = .ok (.iload_n 1, 1) := by decide +kernel
theorem dX11_spreadChances_94 : decode cX11_spreadChances 94 = .ok (.imul, 1) := by decide +kernel
theorem dX11_spreadChances_95 : decode cX11_spreadChances 95 = .ok (.iadd, 1) := by decide +kernel
theorem dX11_spreadChances_96 : decode cX11_spreadChances 96 = .ok (.iastore, 1) := by decide +kernel
theorem dX11_spreadChances_97 : decode cX11_spreadChances 97 = .ok (.iinc 6 (-1), 3) := by decide +kernel
theorem dX11_spreadChances_100 : decode cX11_spreadChances 100 = .ok (.goto (-39), 3) := by decide +kernel
theorem dX11_spreadChances_103 : decode cX11_spreadChances 103 = .ok (.aload_n 0, 1) := by decide +kernel
theorem dX11_spreadChances_104 : decode cX11_spreadChances 104 = .ok (.getfield 74, 3) := by decide +kernel
theorem dX11_spreadChances_107 : decode cX11_spreadChances 107 = .ok (.iconst 0, 1) := by decide +kernel
theorem dX11_spreadChances_108 : decode cX11_spreadChances 108 = .ok (.aload_n 0, 1) := by decide +kernel
theorem dX11_spreadChances_109 : decode cX11_spreadChances 109 = .ok (.getfield 74, 3) := by decide +kernel
theorem dX11_spreadChances_112 : decode cX11_spreadChances 112 = .ok (.iconst 0, 1) := by decide +kernel
theorem dX11_spreadChances_113 : decode cX11_spreadChances 113 = .ok (.iaload, 1) := by decide +kernel
theorem dX11_spreadChances_114 : decode cX11_spreadChances 114 = .ok (.bipush 10, 2) := by decide +kernel
theorem dX11_spreadChances_116 : decode cX11_spreadChances 116 = .ok (.iload_n 1, 1) := by decide +kernel
theorem dX11_spreadChances_117 : decode cX11_spreadChances 117 = .ok (.isub, 1) := by decide +kernel
theorem dX11_spreadChances_118 : decode cX11_spreadChances 118 = .ok (.imul, 1) := by decide +kernel
theorem dX11_spreadChances_119 : decode cX11_spreadChances 119 = .ok (.iload 5, 2) := by decide +kernel
theorem dX11_spreadChances_121 : decode cX11_spreadChances 121 = .ok (.iadd, 1) := by decide +kernel
theorem dX11_spreadChances_122 : decode cX11_spreadChances 122 = .ok (.iastore, 1) := by decide +kernel
theorem dX11_spreadChances_123 : decode cX11_spreadChances 123 = .ok (.iload_n 2, 1) := by decide +kernel
theorem dX11_spreadChances_124 : decode cX11_spreadChances 124 = .ok (.bipush 10, 2) := by decide +kernel
theorem dX11_spreadChances_126 : decode cX11_spreadChances 126 = .ok (.imul, 1) := by decide +kernel
theorem dX11_spreadChances_127 : decode cX11_spreadChances 127 = .ok (.istore_n 2, 1) := by decide +kernel
theorem dX11_spreadChances_128 : decode cX11_spreadChances 128 = .ok (.iinc 4 1, 3) := by decide +kernel
theorem dX11_spreadChances_131 : decode cX11_spreadChances 131 = .ok (.goto (-95), 3) := by decide +kernel
theorem dX11_spreadChances_134 : decode cX11_spreadChances 134 = .ok (.iload_n 2, 1) := by decide +kernel
theorem dX11_spreadChances_135 : decode cX11_spreadChances 135 = .ok (.ireturn, 1) := by decide +kernel
theorem dX11_fitsAllSeen_0 : decode cX11_fitsAllSeen 0 = .ok (.iconst 0, 1) := by decide +kernel
theorem dX11_fitsAllSeen_1 : decode cX11_fitsAllSeen 1 = .ok (.istore_n 2, 1) := by decide +kernel
theorem dX11_fitsAllSeen_2 : decode cX11_fitsAllSeen 2 = .ok (.iload_n 2, 1) := by decide +kernel
theorem dX11_fitsAllSeen_3 : decode cX11_fitsAllSeen 3 = .ok (.aload_n 0, 1) := by decide +kernel
theorem dX11_fitsAllSeen_4 : decode cX11_fitsAllSeen 4 = .ok (.getfield 119, 3) := by decide +kernel
theorem dX11_fitsAllSeen_7 : decode cX11_fitsAllSeen 7 = .ok (.if_icmp .ge 44, 3) := by decide +kernel
theorem dX11_fitsAllSeen_10 : decode cX11_fitsAllSeen 10 = .ok (.aload_n 0, 1) := by decide +kernel
theorem dX11_fitsAllSeen_11 : decode cX11_fitsAllSeen 11 = .ok (.getfield 39, 3) := by decide +kernel
theorem dX11_fitsAllSeen_14 : decode cX11_fitsAllSeen 14 = .ok (.aload_n 0, 1) := by decide +kernel
theorem dX11_fitsAllSeen_15 : decode cX11_fitsAllSeen 15 = .ok (.getfield 46, 3) := by decide +kernel
theorem dX11_fitsAllSeen_18 : decode cX11_fitsAllSeen 18 = .ok (.iload_n 1, 1) := by decide +kernel
theorem dX11_fitsAllSeen_19 : decode cX11_fitsAllSeen 19 = .ok (.aload_n 0, 1) := by decide +kernel
theorem dX11_fitsAllSeen_20 : decode cX11_fitsAllSeen 20 = .ok (.getfield 64, 3) := by decide +kernel
theorem dX11_fitsAllSeen_23 : decode cX11_fitsAllSeen 23 = .ok (.iload_n 2, 1) := by decide +kernel
theorem dX11_fitsAllSeen_24 : decode cX11_fitsAllSeen 24 = .ok (.iaload, 1) := by decide +kernel
theorem dX11_fitsAllSeen_25 : decode cX11_fitsAllSeen 25 = .ok (.aload_n 0, 1) := by decide +kernel
theorem dX11_fitsAllSeen_26 : decode cX11_fitsAllSeen 26 = .ok (.getfield 68, 3) := by decide +kernel
theorem dX11_fitsAllSeen_29 : decode cX11_fitsAllSeen 29 = .ok (.iload_n 2, 1) := by decide +kernel
theorem dX11_fitsAllSeen_30 : decode cX11_fitsAllSeen 30 = .ok (.iaload, 1) := by decide +kernel
theorem dX11_fitsAllSeen_31 : decode cX11_fitsAllSeen 31 = .ok (.invokevirtual 197, 3) := by decide +kernel
theorem dX11_fitsAllSeen_34 : decode cX11_fitsAllSeen 34 = .ok (.aload_n 0, 1) := by decide +kernel
theorem dX11_fitsAllSeen_35 : decode cX11_fitsAllSeen 35 = .ok (.getfield 71, 3) := by decide +kernel
theorem dX11_fitsAllSeen_38 : decode cX11_fitsAllSeen 38 = .ok (.iload_n 2, 1) := by decide +kernel
theorem dX11_fitsAllSeen_39 : decode cX11_fitsAllSeen 39 = .ok (.baload, 1) := by decide +kernel
theorem dX11_fitsAllSeen_40 : decode cX11_fitsAllSeen 40 = .ok (.if_icmp .eq 5, 3) := by decide +kernel
theorem dX11_fitsAllSeen_43 : decode cX11_fitsAllSeen 43 = .ok (.iconst 0, 1) := by decide +kernel
theorem dX11_fitsAllSeen_44 : decode cX11_fitsAllSeen 44 = .ok (.ireturn, 1) := by decide +kernel
theorem dX11_fitsAllSeen_45 : decode cX11_fitsAllSeen 45 = .ok (.iinc 2 1, 3) := by decide +kernel
theorem dX11_fitsAllSeen_48 : decode cX11_fitsAllSeen 48 = .ok (.goto (-46), 3) := by decide +kernel
theorem dX11_fitsAllSeen_51 : decode cX11_fitsAllSeen 51 = .ok (.iconst 1, 1) := by decide +kernel
theorem dX11_fitsAllSeen_52 : decode cX11_fitsAllSeen 52 = .ok (.ireturn, 1) := by decide +kernel
theorem dJ6_bitCount_0f7a4_0 : decode cJ6_bitCount_0f7a4 0 = .ok (.iload_n 0, 1) := by decide +kernel
theorem dJ6_bitCount_0f7a4_1 : decode cJ6_bitCount_0f7a4 1 = .ok (.iload_n 0, 1) := by decide +kernel
theorem dJ6_bitCount_0f7a4_2 : decode cJ6_bitCount_0f7a4 2 = .ok (.iconst 1, 1) := by decide +kernel
theorem dJ6_bitCount_0f7a4_3 : decode cJ6_bitCount_0f7a4 3 = .ok (.iushr, 1) := by decide +kernel
theorem dJ6_bitCount_0f7a4_4 : decode cJ6_bitCount_0f7a4 4 = .ok (.ldc_w 265, 3) := by decide +kernel
theorem dJ6_bitCount_0f7a4_7 : decode cJ6_bitCount_0f7a4 7 = .ok (.iand, 1) := by decide +kernel
theorem dJ6_bitCount_0f7a4_8 : decode cJ6_bitCount_0f7a4 8 = .ok (.isub, 1) := by decide +kernel
theorem dJ6_bitCount_0f7a4_9 : decode cJ6_bitCount_0f7a4 9 = .ok (.istore_n 0, 1) := by decide +kernel
theorem dJ6_bitCount_0f7a4_10 : decode cJ6_bitCount_0f7a4 10 = .ok (.iload_n 0, 1) := by decide +kernel
theorem dJ6_bitCount_0f7a4_11 : decode cJ6_bitCount_0f7a4 11 = .ok (.ldc_w 266, 3) := by decide +kernel
theorem dJ6_bitCount_0f7a4_14 : decode cJ6_bitCount_0f7a4 14 = .ok (.iand, 1) := by decide +kernel
theorem dJ6_bitCount_0f7a4_15 : decode cJ6_bitCount_0f7a4 15 = .ok (.iload_n 0, 1) := by decide +kernel
theorem dJ6_bitCount_0f7a4_16 : decode cJ6_bitCount_0f7a4 16 = .ok (.iconst 2, 1) := by decide +kernel
theorem dJ6_bitCount_0f7a4_17 : decode cJ6_bitCount_0f7a4 17 = .ok (.iushr, 1) := by decide +kernel
theorem dJ6_bitCount_0f7a4_18 : decode cJ6_bitCount_0f7a4 18 = .ok (.ldc_w 266, 3) := by decide +kernel
theorem dJ6_bitCount_0f7a4_21 : decode cJ6_bitCount_0f7a4 21 = .ok (.iand, 1) := by decide +kernel
theorem dJ6_bitCount_0f7a4_22 : decode cJ6_bitCount_0f7a4 22 = .ok (.iadd, 1) := by decide +kernel
theorem dJ6_bitCount_0f7a4_23 : decode cJ6_bitCount_0f7a4 23 = .ok (.istore_n 0, 1) := by decide +kernel
theorem dJ6_bitCount_0f7a4_24 : decode cJ6_bitCount_0f7a4 24 = .ok (.iload_n 0, 1) := by decide +kernel
theorem dJ6_bitCount_0f7a4_25 : decode cJ6_bitCount_0f7a4 25 = .ok (.iload_n 0, 1) := by decide +kernel
theorem dJ6_bitCount_0f7a4_26 : decode cJ6_bitCount_0f7a4 26 = .ok (.iconst 4, 1) := by decide +kernel
theorem dJ6_bitCount_0f7a4_27 : decode cJ6_bitCount_0f7a4 27 = .ok (.iushr, 1) := by decide +kernel
theorem dJ6_bitCount_0f7a4_28 : decode cJ6_bitCount_0f7a4 28 = .ok (.iadd, 1) := by decide +kernel
theorem dJ6_bitCount_0f7a4_29 : decode cJ6_bitCount_0f7a4 29 = .ok (.ldc_w 267, 3) := by decide +kernel
theorem dJ6_bitCount_0f7a4_32 : decode cJ6_bitCount_0f7a4 32 = .ok (.iand, 1) := by decide +kernel
theorem dJ6_bitCount_0f7a4_33 : decode cJ6_bitCount_0f7a4 33 = .ok (.istore_n 0, 1) := by decide +kernel
theorem dJ6_bitCount_0f7a4_34 : decode cJ6_bitCount_0f7a4 34 = .ok (.iload_n 0, 1) := by decide +kernel
theorem dJ6_bitCount_0f7a4_35 : decode cJ6_bitCount_0f7a4 35 = .ok (.iload_n 0, 1) := by decide +kernel
theorem dJ6_bitCount_0f7a4_36 : decode cJ6_bitCount_0f7a4 36 = .ok (.bipush 8, 2) := by decide +kernel
theorem dJ6_bitCount_0f7a4_38 : decode cJ6_bitCount_0f7a4 38 = .ok (.iushr, 1) := by decide +kernel
theorem dJ6_bitCount_0f7a4_39 : decode cJ6_bitCount_0f7a4 39 = .ok (.iadd, 1) := by decide +kernel
theorem dJ6_bitCount_0f7a4_40 : decode cJ6_bitCount_0f7a4 40 = .ok (.istore_n 0, 1) := by decide +kernel
theorem dJ6_bitCount_0f7a4_41 : decode cJ6_bitCount_0f7a4 41 = .ok (.iload_n 0, 1) := by decide +kernel
theorem dJ6_bitCount_0f7a4_42 : decode cJ6_bitCount_0f7a4 42 = .ok (.iload_n 0, 1) := by decide +kernel
theorem dJ6_bitCount_0f7a4_43 : decode cJ6_bitCount_0f7a4 43 = .ok (.bipush 16, 2) := by decide +kernel
theorem dJ6_bitCount_0f7a4_45 : decode cJ6_bitCount_0f7a4 45 = .ok (.iushr, 1) := by decide +kernel
theorem dJ6_bitCount_0f7a4_46 : decode cJ6_bitCount_0f7a4 46 = .ok (.iadd, 1) := by decide +kernel
theorem dJ6_bitCount_0f7a4_47 : decode cJ6_bitCount_0f7a4 47 = .ok (.istore_n 0, 1) := by decide +kernel
theorem dJ6_bitCount_0f7a4_48 : decode cJ6_bitCount_0f7a4 48 = .ok (.iload_n 0, 1) := by decide +kernel
theorem dJ6_bitCount_0f7a4_49 : decode cJ6_bitCount_0f7a4 49 = .ok (.bipush 63, 2) := by decide +kernel
theorem dJ6_bitCount_0f7a4_51 : decode cJ6_bitCount_0f7a4 51 = .ok (.iand, 1) := by decide +kernel
theorem dJ6_bitCount_0f7a4_52 : decode cJ6_bitCount_0f7a4 52 = .ok (.ireturn, 1) := by decide +kernel
theorem dJ9_floorMod_7cf53_0 : decode cJ9_floorMod_7cf53 0 = .ok (.iload_n 0, 1) := by decide +kernel
theorem dJ9_floorMod_7cf53_1 : decode cJ9_floorMod_7cf53 1 = .ok (.iload_n 1, 1) := by decide +kernel
theorem dJ9_floorMod_7cf53_2 : decode cJ9_floorMod_7cf53 2 = .ok (.irem, 1) := by decide +kernel
theorem dJ9_floorMod_7cf53_3 : decode cJ9_floorMod_7cf53 3 = .ok (.istore_n 2, 1) := by decide +kernel
theorem dJ9_floorMod_7cf53_4 : decode cJ9_floorMod_7cf53 4 = .ok (.iload_n 0, 1) := by decide +kernel
theorem dJ9_floorMod_7cf53_5 : decode cJ9_floorMod_7cf53 5 = .ok (.iload_n 1, 1) := by decide +kernel
theorem dJ9_floorMod_7cf53_6 : decode cJ9_floorMod_7cf53 6 = .ok (.ixor, 1) := by decide +kernel
theorem dJ9_floorMod_7cf53_7 : decode cJ9_floorMod_7cf53 7 = .ok (.ifCond .ge 11, 3) := by decide +kernel
theorem dJ9_floorMod_7cf53_10 : decode cJ9_floorMod_7cf53 10 = .ok (.iload_n 2, 1) := by decide +kernel
theorem dJ9_floorMod_7cf53_11 : decode cJ9_floorMod_7cf53 11 = .ok (.ifCond .eq 7, 3) := by decide +kernel
theorem dJ9_floorMod_7cf53_14 : decode cJ9_floorMod_7cf53 14 = .ok (.iload_n 2, 1) := by decide +kernel
theorem dJ9_floorMod_7cf53_15 : decode cJ9_floorMod_7cf53 15 = .ok (.iload_n 1, 1) := by decide +kernel
theorem dJ9_floorMod_7cf53_16 : decode cJ9_floorMod_7cf53 16 = .ok (.iadd, 1) := by decide +kernel
theorem dJ9_floorMod_7cf53_17 : decode cJ9_floorMod_7cf53 17 = .ok (.ireturn, 1) := by decide +kernel
theorem dJ9_floorMod_7cf53_18 : decode cJ9_floorMod_7cf53 18 = .ok (.iload_n 2, 1) := by decide +kernel
theorem dJ9_floorMod_7cf53_19 : decode cJ9_floorMod_7cf53 19 = .ok (.ireturn, 1) := by decide +kernel
theorem dJ9_max_7cf53_0 : decode cJ9_max_7cf53 0 = .ok (.iload_n 0, 1) := by decide +kernel
theorem dJ9_max_7cf53_1 : decode cJ9_max_7cf53 1 = .ok (.iload_n 1, 1) := by decide +kernel
theorem dJ9_max_7cf53_2 : decode cJ9_max_7cf53 2 = .ok (.if_icmp .lt 7, 3) := by decide +kernel
theorem dJ9_max_7cf53_5 : decode cJ9_max_7cf53 5 = .ok (.iload_n 0, 1) := by decide +kernel
theorem dJ9_max_7cf53_6 : decode cJ9_max_7cf53 6 = .ok (.goto 4, 3) := by decide +kernel
theorem dJ9_max_7cf53_9 : decode cJ9_max_7cf53 9 = .ok (.iload_n 1, 1) := by decide +kernel
theorem dJ9_max_7cf53_10 : decode cJ9_max_7cf53 10 = .ok (.ireturn, 1) := by decide +kernel
theorem dJ9_min_7cf53_0 : decode cJ9_min_7cf53 0 = .ok (.iload_n 0, 1) := by decide +kernel
theorem dJ9_min_7cf53_1 : decode cJ9_min_7cf53 1 = .ok (.iload_n 1, 1) := by decide +kernel
theorem dJ9_min_7cf53_2 : decode cJ9_min_7cf53 2 = .ok (.if_icmp .gt 7, 3) := by decide +kernel
theorem dJ9_min_7cf53_5 : decode cJ9_min_7cf53 5 = .ok (.iload_n 0, 1) := by decide +kernel
theorem dJ9_min_7cf53_6 : decode cJ9_min_7cf53 6 = .ok (.goto 4, 3) := by decide +kernel
theorem dJ9_min_7cf53_9 : decode cJ9_min_7cf53 9 = .ok (.iload_n 1, 1) := by decide +kernel
theorem dJ9_min_7cf53_10 : decode cJ9_min_7cf53 10 = .ok (.ireturn, 1) := by decide +kernel
theorem dJ7_fill_53178_0 : decode cJ7_fill_53178 0 = .ok (.iconst 0, 1) := by decide +kernel
theorem dJ7_fill_53178_1 : decode cJ7_fill_53178 1 = .ok (.istore_n 2, 1) := by decide +kernel
theorem dJ7_fill_53178_2 : decode cJ7_fill_53178 2 = .ok (.aload_n 0, 1) := by decide +kernel
theorem dJ7_fill_53178_3 : decode cJ7_fill_53178 3 = .ok (.arraylength, 1) := by decide +kernel
theorem dJ7_fill_53178_4 : decode cJ7_fill_53178 4 = .ok (.istore_n 3, 1) := by decide +kernel
theorem dJ7_fill_53178_5 : decode cJ7_fill_53178 5 = .ok (.iload_n 2, 1) := by decide +kernel
theorem dJ7_fill_53178_6 : decode cJ7_fill_53178 6 = .ok (.iload_n 3, 1) := by decide +kernel
theorem dJ7_fill_53178_7 : decode cJ7_fill_53178 7 = .ok (.if_icmp .ge 13, 3) := by decide +kernel
theorem dJ7_fill_53178_10 : decode cJ7_fill_53178 10 = .ok (.aload_n 0, 1) := by decide +kernel
theorem dJ7_fill_53178_11 : decode cJ7_fill_53178 11 = .ok (.iload_n 2, 1) := by decide +kernel
theorem dJ7_fill_53178_12 : decode cJ7_fill_53178 12 = .ok (.iload_n 1, 1) := by decide +kernel
theorem dJ7_fill_53178_13 : decode cJ7_fill_53178 13 = .ok (.iastore, 1) := by decide +kernel
theorem dJ7_fill_53178_14 : decode cJ7_fill_53178 14 = .ok (.iinc 2 1, 3) := by decide +kernel
theorem dJ7_fill_53178_17 : decode cJ7_fill_53178 17 = .ok (.goto (-12), 3) := by decide +kernel
theorem dJ7_fill_53178_20 : decode cJ7_fill_53178 20 = .ok (.return_, 1) := by decide +kernel
