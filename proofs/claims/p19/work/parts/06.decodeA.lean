section CDC
theorem dX0_init_0 : decode cX0_init 0 = .ok (.aload_n 0, 1) := by decide +kernel
theorem dX0_init_1 : decode cX0_init 1 = .ok (.invokespecial 3, 3) := by decide +kernel
theorem dX0_init_4 : decode cX0_init 4 = .ok (.aload_n 0, 1) := by decide +kernel
theorem dX0_init_5 : decode cX0_init 5 = .ok (.bipush 20, 2) := by decide +kernel
theorem dX0_init_7 : decode cX0_init 7 = .ok (.newarray .int, 2) := by decide +kernel
theorem dX0_init_9 : decode cX0_init 9 = .ok (.putfield 11, 3) := by decide +kernel
theorem dX0_init_12 : decode cX0_init 12 = .ok (.return_, 1) := by decide +kernel
theorem dX0_clear_0 : decode cX0_clear 0 = .ok (.aload_n 0, 1) := by decide +kernel
theorem dX0_clear_1 : decode cX0_clear 1 = .ok (.iconst 0, 1) := by decide +kernel
theorem dX0_clear_2 : decode cX0_clear 2 = .ok (.putfield 15, 3) := by decide +kernel
theorem dX0_clear_5 : decode cX0_clear 5 = .ok (.return_, 1) := by decide +kernel
theorem dX0_start_0 : decode cX0_start 0 = .ok (.aload_n 1, 1) := by decide +kernel
theorem dX0_start_1 : decode cX0_start 1 = .ok (.iload_n 2, 1) := by decide +kernel
theorem dX0_start_2 : decode cX0_start 2 = .ok (.invokevirtual 19, 3) := by decide +kernel
theorem dX0_start_5 : decode cX0_start 5 = .ok (.ifCond .ne 5, 3) := by decide +kernel
theorem dX0_start_8 : decode cX0_start 8 = .ok (.iconst 0, 1) := by decide +kernel
theorem dX0_start_9 : decode cX0_start 9 = .ok (.ireturn, 1) := by decide +kernel
theorem dX0_start_10 : decode cX0_start 10 = .ok (.aload_n 0, 1) := by decide +kernel
theorem dX0_start_11 : decode cX0_start 11 = .ok (.iload_n 2, 1) := by decide +kernel
theorem dX0_start_12 : decode cX0_start 12 = .ok (.putfield 25, 3) := by decide +kernel
theorem dX0_start_15 : decode cX0_start 15 = .ok (.aload_n 0, 1) := by decide +kernel
theorem dX0_start_16 : decode cX0_start 16 = .ok (.aload_n 1, 1) := by decide +kernel
theorem dX0_start_17 : decode cX0_start 17 = .ok (.getfield 28, 3) := by decide +kernel
theorem dX0_start_20 : decode cX0_start 20 = .ok (.iload_n 2, 1) := by decide +kernel
theorem dX0_start_21 : decode cX0_start 21 = .ok (.iaload, 1) := by decide +kernel
theorem dX0_start_22 : decode cX0_start 22 = .ok (.putfield 31, 3) := by decide +kernel
theorem dX0_start_25 : decode cX0_start 25 = .ok (.aload_n 0, 1) := by decide +kernel
theorem dX0_start_26 : decode cX0_start 26 = .ok (.aload_n 1, 1) := by decide +kernel
theorem dX0_start_27 : decode cX0_start 27 = .ok (.getfield 33, 3) := by decide +kernel
theorem dX0_start_30 : decode cX0_start 30 = .ok (.iload_n 2, 1) := by decide +kernel
theorem dX0_start_31 : decode cX0_start 31 = .ok (.iaload, 1) := by decide +kernel
theorem dX0_start_32 : decode cX0_start 32 = .ok (.putfield 36, 3) := by decide +kernel
theorem dX0_start_35 : decode cX0_start 35 = .ok (.aload_n 0, 1) := by decide +kernel
theorem dX0_start_36 : decode cX0_start 36 = .ok (.aload_n 0, 1) := by decide +kernel
theorem dX0_start_37 : decode cX0_start 37 = .ok (.getfield 31, 3) := by decide +kernel
theorem dX0_start_40 : decode cX0_start 40 = .ok (.iload_n 3, 1) := by decide +kernel
theorem dX0_start_41 : decode cX0_start 41 = .ok (.iload 4, 2) := by decide +kernel
theorem dX0_start_43 : decode cX0_start 43 = .ok (.iconst 0, 1) := by decide +kernel
theorem dX0_start_44 : decode cX0_start 44 = .ok (.invokevirtual 38, 3) := by decide +kernel
theorem dX0_start_47 : decode cX0_start 47 = .ok (.ireturn, 1) := by decide +kernel
theorem dX0_bodyOf_0 : decode cX0_bodyOf 0 = .ok (.iload_n 0, 1) := by decide +kernel
theorem dX0_bodyOf_1 : decode cX0_bodyOf 1 = .ok (.istore_n 2, 1) := by decide +kernel
theorem dX0_bodyOf_2 : decode cX0_bodyOf 2 = .ok (.iconst 0, 1) := by decide +kernel
theorem dX0_bodyOf_3 : decode cX0_bodyOf 3 = .ok (.istore_n 3, 1) := by decide +kernel
theorem dX0_bodyOf_4 : decode cX0_bodyOf 4 = .ok (.iload_n 3, 1) := by decide +kernel
theorem dX0_bodyOf_5 : decode cX0_bodyOf 5 = .ok (.bipush 7, 2) := by decide +kernel
theorem dX0_bodyOf_7 : decode cX0_bodyOf 7 = .ok (.if_icmp .ge 62, 3) := by decide +kernel
theorem dX0_bodyOf_10 : decode cX0_bodyOf 10 = .ok (.iload_n 2, 1) := by decide +kernel
theorem dX0_bodyOf_11 : decode cX0_bodyOf 11 = .ok (.ifCond .lt 58, 3) := by decide +kernel
theorem dX0_bodyOf_14 : decode cX0_bodyOf 14 = .ok (.iload_n 2, 1) := by decide +kernel
theorem dX0_bodyOf_15 : decode cX0_bodyOf 15 = .ok (.bipush 7, 2) := by decide +kernel
theorem dX0_bodyOf_17 : decode cX0_bodyOf 17 = .ok (.if_icmp .ge 52, 3) := by decide +kernel
theorem dX0_bodyOf_20 : decode cX0_bodyOf 20 = .ok (.iload_n 2, 1) := by decide +kernel
theorem dX0_bodyOf_21 : decode cX0_bodyOf 21 = .ok (.iconst 3, 1) := by decide +kernel
theorem dX0_bodyOf_22 : decode cX0_bodyOf 22 = .ok (.imul, 1) := by decide +kernel
theorem dX0_bodyOf_23 : decode cX0_bodyOf 23 = .ok (.iload_n 1, 1) := by decide +kernel
theorem dX0_bodyOf_24 : decode cX0_bodyOf 24 = .ok (.iadd, 1) := by decide +kernel
theorem dX0_bodyOf_25 : decode cX0_bodyOf 25 = .ok (.istore 4, 2) := by decide +kernel
theorem dX0_bodyOf_27 : decode cX0_bodyOf 27 = .ok (.iload 4, 2) := by decide +kernel
theorem dX0_bodyOf_29 : decode cX0_bodyOf 29 = .ok (.ifCond .lt 28, 3) := by decide +kernel
theorem dX0_bodyOf_32 : decode cX0_bodyOf 32 = .ok (.iload 4, 2) := by decide +kernel
theorem dX0_bodyOf_34 : decode cX0_bodyOf 34 = .ok (.getstatic 42, 3) := by decide +kernel
theorem dX0_bodyOf_37 : decode cX0_bodyOf 37 = .ok (.arraylength, 1) := by decide +kernel
theorem dX0_bodyOf_38 : decode cX0_bodyOf 38 = .ok (.if_icmp .ge 19, 3) := by decide +kernel
theorem dX0_bodyOf_41 : decode cX0_bodyOf 41 = .ok (.getstatic 42, 3) := by decide +kernel
theorem dX0_bodyOf_44 : decode cX0_bodyOf 44 = .ok (.iload 4, 2) := by decide +kernel
theorem dX0_bodyOf_46 : decode cX0_bodyOf 46 = .ok (.iaload, 1) := by decide +kernel
theorem dX0_bodyOf_47 : decode cX0_bodyOf 47 = .ok (.ifCond .eq 10, 3) := by decide +kernel
theorem dX0_bodyOf_50 : decode cX0_bodyOf 50 = .ok (.getstatic 42, 3) := by decide +kernel
theorem dX0_bodyOf_53 : decode cX0_bodyOf 53 = .ok (.iload 4, 2) := by decide +kernel
theorem dX0_bodyOf_55 : decode cX0_bodyOf 55 = .ok (.iaload, 1) := by decide +kernel
theorem dX0_bodyOf_56 : decode cX0_bodyOf 56 = .ok (.ireturn, 1) := by decide +kernel
theorem dX0_bodyOf_57 : decode cX0_bodyOf 57 = .ok (.getstatic 45, 3) := by decide +kernel
theorem dX0_bodyOf_60 : decode cX0_bodyOf 60 = .ok (.iload_n 2, 1) := by decide +kernel
theorem dX0_bodyOf_61 : decode cX0_bodyOf 61 = .ok (.iaload, 1) := by decide +kernel
theorem dX0_bodyOf_62 : decode cX0_bodyOf 62 = .ok (.istore_n 2, 1) := by decide +kernel
theorem dX0_bodyOf_63 : decode cX0_bodyOf 63 = .ok (.iinc 3 1, 3) := by decide +kernel
theorem dX0_bodyOf_66 : decode cX0_bodyOf 66 = .ok (.goto (-62), 3) := by decide +kernel
theorem dX0_bodyOf_69 : decode cX0_bodyOf 69 = .ok (.iconst 0, 1) := by decide +kernel
theorem dX0_bodyOf_70 : decode cX0_bodyOf 70 = .ok (.ireturn, 1) := by decide +kernel
theorem dX0_begin_0 : decode cX0_begin 0 = .ok (.aload_n 0, 1) := by decide +kernel
theorem dX0_begin_1 : decode cX0_begin 1 = .ok (.getfield 15, 3) := by decide +kernel
theorem dX0_begin_4 : decode cX0_begin 4 = .ok (.ifCond .lt 22, 3) := by decide +kernel
theorem dX0_begin_7 : decode cX0_begin 7 = .ok (.aload_n 0, 1) := by decide +kernel
theorem dX0_begin_8 : decode cX0_begin 8 = .ok (.getfield 15, 3) := by decide +kernel
theorem dX0_begin_11 : decode cX0_begin 11 = .ok (.bipush 20, 2) := by decide +kernel
theorem dX0_begin_13 : decode cX0_begin 13 = .ok (.if_icmp .ge 13, 3) := by decide +kernel
theorem dX0_begin_16 : decode cX0_begin 16 = .ok (.aload_n 0, 1) := by decide +kernel
theorem dX0_begin_17 : decode cX0_begin 17 = .ok (.getfield 11, 3) := by decide +kernel
theorem dX0_begin_20 : decode cX0_begin 20 = .ok (.aload_n 0, 1) := by decide +kernel
theorem dX0_begin_21 : decode cX0_begin 21 = .ok (.getfield 15, 3) := by decide +kernel
theorem dX0_begin_24 : decode cX0_begin 24 = .ok (.iload_n 1, 1) := by decide +kernel
theorem dX0_begin_25 : decode cX0_begin 25 = .ok (.iastore, 1) := by decide +kernel
theorem dX0_begin_26 : decode cX0_begin 26 = .ok (.aload_n 0, 1) := by decide +kernel
theorem dX0_begin_27 : decode cX0_begin 27 = .ok (.dup, 1) := by decide +kernel
theorem dX0_begin_28 : decode cX0_begin 28 = .ok (.getfield 15, 3) := by decide +kernel
theorem dX0_begin_31 : decode cX0_begin 31 = .ok (.iconst 1, 1) := by decide +kernel
theorem dX0_begin_32 : decode cX0_begin 32 = .ok (.iadd, 1) := by decide +kernel
theorem dX0_begin_33 : decode cX0_begin 33 = .ok (.putfield 15, 3) := by decide +kernel
theorem dX0_begin_36 : decode cX0_begin 36 = .ok (.return_, 1) := by decide +kernel
theorem dX0_ask_0 : decode cX0_ask 0 = .ok (.iload_n 1, 1) := by decide +kernel
theorem dX0_ask_1 : decode cX0_ask 1 = .ok (.iload_n 2, 1) := by decide +kernel
theorem dX0_ask_2 : decode cX0_ask 2 = .ok (.invokestatic 48, 3) := by decide +kernel
theorem dX0_ask_5 : decode cX0_ask 5 = .ok (.istore 5, 2) := by decide +kernel
theorem dX0_ask_7 : decode cX0_ask 7 = .ok (.iload 5, 2) := by decide +kernel
theorem dX0_ask_9 : decode cX0_ask 9 = .ok (.ifCond .eq 10, 3) := by decide +kernel
theorem dX0_ask_12 : decode cX0_ask 12 = .ok (.iload 4, 2) := by decide +kernel
theorem dX0_ask_14 : decode cX0_ask 14 = .ok (.bipush 40, 2) := by decide +kernel
theorem dX0_ask_16 : decode cX0_ask 16 = .ok (.if_icmp .le 5, 3) := by decide +kernel
theorem dX0_ask_19 : decode cX0_ask 19 = .ok (.iconst 0, 1) := by decide +kernel
theorem dX0_ask_20 : decode cX0_ask 20 = .ok (.ireturn, 1) := by decide +kernel
theorem dX0_ask_21 : decode cX0_ask 21 = .ok (.aload_n 0, 1) := by decide +kernel
theorem dX0_ask_22 : decode cX0_ask 22 = .ok (.iload 5, 2) := by decide +kernel
theorem dX0_ask_24 : decode cX0_ask 24 = .ok (.invokevirtual 52, 3) := by decide +kernel
theorem dX0_ask_27 : decode cX0_ask 27 = .ok (.iload 4, 2) := by decide +kernel
theorem dX0_ask_29 : decode cX0_ask 29 = .ok (.iconst 1, 1) := by decide +kernel
theorem dX0_ask_30 : decode cX0_ask 30 = .ok (.iadd, 1) := by decide +kernel
theorem dX0_ask_31 : decode cX0_ask 31 = .ok (.istore 6, 2) := by decide +kernel
theorem dX0_ask_33 : decode cX0_ask 33 = .ok (.iload 5, 2) := by decide +kernel
theorem dX0_ask_35 : decode cX0_ask 35 = .ok (.lookupswitch 212 #[(1, 81), (2, 88), (3, 106), (11, 121), (21, 133), (31, 144), (41, 157), (51, 182), (61, 197)], 81) := by decide +kernel
theorem dX0_ask_116 : decode cX0_ask 116 = .ok (.iload_n 3, 1) := by decide +kernel
theorem dX0_ask_117 : decode cX0_ask 117 = .ok (.aload_n 0, 1) := by decide +kernel
theorem dX0_ask_118 : decode cX0_ask 118 = .ok (.getfield 25, 3) := by decide +kernel
theorem dX0_ask_121 : decode cX0_ask 121 = .ok (.iadd, 1) := by decide +kernel
theorem dX0_ask_122 : decode cX0_ask 122 = .ok (.ireturn, 1) := by decide +kernel
theorem dX0_ask_123 : decode cX0_ask 123 = .ok (.aload_n 0, 1) := by decide +kernel
theorem dX0_ask_124 : decode cX0_ask 124 = .ok (.aload_n 0, 1) := by decide +kernel
theorem dX0_ask_125 : decode cX0_ask 125 = .ok (.getfield 31, 3) := by decide +kernel
theorem dX0_ask_128 : decode cX0_ask 128 = .ok (.iconst 0, 1) := by decide +kernel
theorem dX0_ask_129 : decode cX0_ask 129 = .ok (.iload_n 3, 1) := by decide +kernel
theorem dX0_ask_130 : decode cX0_ask 130 = .ok (.iload 6, 2) := by decide +kernel
theorem dX0_ask_132 : decode cX0_ask 132 = .ok (.invokevirtual 38, 3) := by decide +kernel
theorem dX0_ask_135 : decode cX0_ask 135 = .ok (.aload_n 0, 1) := by decide +kernel
theorem dX0_ask_136 : decode cX0_ask 136 = .ok (.getfield 36, 3) := by decide +kernel
theorem dX0_ask_139 : decode cX0_ask 139 = .ok (.isub, 1) := by decide +kernel
theorem dX0_ask_140 : decode cX0_ask 140 = .ok (.ireturn, 1) := by decide +kernel
theorem dX0_ask_141 : decode cX0_ask 141 = .ok (.aload_n 0, 1) := by decide +kernel
theorem dX0_ask_142 : decode cX0_ask 142 = .ok (.aload_n 0, 1) := by decide +kernel
theorem dX0_ask_143 : decode cX0_ask 143 = .ok (.getfield 31, 3) := by decide +kernel
theorem dX0_ask_146 : decode cX0_ask 146 = .ok (.iconst 1, 1) := by decide +kernel
theorem dX0_ask_147 : decode cX0_ask 147 = .ok (.iload_n 3, 1) := by decide +kernel
theorem dX0_ask_148 : decode cX0_ask 148 = .ok (.iload 6, 2) := by decide +kernel
theorem dX0_ask_150 : decode cX0_ask 150 = .ok (.invokevirtual 38, 3) := by decide +kernel
theorem dX0_ask_153 : decode cX0_ask 153 = .ok (.iconst 2, 1) := by decide +kernel
theorem dX0_ask_154 : decode cX0_ask 154 = .ok (.imul, 1) := by decide +kernel
theorem dX0_ask_155 : decode cX0_ask 155 = .ok (.ireturn, 1) := by decide +kernel
theorem dX0_ask_156 : decode cX0_ask 156 = .ok (.aload_n 0, 1) := by decide +kernel
theorem dX0_ask_157 : decode cX0_ask 157 = .ok (.iconst 0, 1) := by decide +kernel
theorem dX0_ask_158 : decode cX0_ask 158 = .ok (.iconst 0, 1) := by decide +kernel
theorem dX0_ask_159 : decode cX0_ask 159 = .ok (.iload_n 3, 1) := by decide +kernel
theorem dX0_ask_160 : decode cX0_ask 160 = .ok (.iconst 3, 1) := by decide +kernel
theorem dX0_ask_161 : decode cX0_ask 161 = .ok (.imul, 1) := by decide +kernel
theorem dX0_ask_162 : decode cX0_ask 162 = .ok (.iload 6, 2) := by decide +kernel
theorem dX0_ask_164 : decode cX0_ask 164 = .ok (.invokevirtual 38, 3) := by decide +kernel
theorem dX0_ask_167 : decode cX0_ask 167 = .ok (.ireturn, 1) := by decide +kernel
theorem dX0_ask_168 : decode cX0_ask 168 = .ok (.aload_n 0, 1) := by decide +kernel
theorem dX0_ask_169 : decode cX0_ask 169 = .ok (.iconst 0, 1) := by decide +kernel
theorem dX0_ask_170 : decode cX0_ask 170 = .ok (.iconst 1, 1) := by decide +kernel
theorem dX0_ask_171 : decode cX0_ask 171 = .ok (.iload_n 3, 1) := by decide +kernel
theorem dX0_ask_172 : decode cX0_ask 172 = .ok (.iload 6, 2) := by decide +kernel
theorem dX0_ask_174 : decode cX0_ask 174 = .ok (.invokevirtual 38, 3) := by decide +kernel
theorem dX0_ask_177 : decode cX0_ask 177 = .ok (.ineg, 1) := by decide +kernel
theorem dX0_ask_178 : decode cX0_ask 178 = .ok (.ireturn, 1) := by decide +kernel
theorem dX0_ask_179 : decode cX0_ask 179 = .ok (.aload_n 0, 1) := by decide +kernel
theorem dX0_ask_180 : decode cX0_ask 180 = .ok (.iconst 0, 1) := by decide +kernel
theorem dX0_ask_181 : decode cX0_ask 181 = .ok (.iconst 2, 1) := by decide +kernel
theorem dX0_ask_182 : decode cX0_ask 182 = .ok (.iload_n 3, 1) := by decide +kernel
theorem dX0_ask_183 : decode cX0_ask 183 = .ok (.iload 6, 2) := by decide +kernel
theorem dX0_ask_185 : decode cX0_ask 185 = .ok (.invokevirtual 38, 3) := by decide +kernel
theorem dX0_ask_188 : decode cX0_ask 188 = .ok (.bipush 7, 2) := by decide +kernel
theorem dX0_ask_190 : decode cX0_ask 190 = .ok (.ixor, 1) := by decide +kernel
theorem dX0_ask_191 : decode cX0_ask 191 = .ok (.ireturn, 1) := by decide +kernel
theorem dX0_ask_192 : decode cX0_ask 192 = .ok (.aload_n 0, 1) := by decide +kernel
theorem dX0_ask_193 : decode cX0_ask 193 = .ok (.iconst 2, 1) := by decide +kernel
theorem dX0_ask_194 : decode cX0_ask 194 = .ok (.iconst 2, 1) := by decide +kernel
theorem dX0_ask_195 : decode cX0_ask 195 = .ok (.iload_n 3, 1) := by decide +kernel
theorem dX0_ask_196 : decode cX0_ask 196 = .ok (.iconst 1, 1) := by decide +kernel
theorem dX0_ask_197 : decode cX0_ask 197 = .ok (.isub, 1) := by decide +kernel
theorem dX0_ask_198 : decode cX0_ask 198 = .ok (.iload 6, 2) := by decide +kernel
theorem dX0_ask_200 : decode cX0_ask 200 = .ok (.invokevirtual 38, 3) := by decide +kernel
theorem dX0_ask_203 : decode cX0_ask 203 = .ok (.aload_n 0, 1) := by decide +kernel
theorem dX0_ask_204 : decode cX0_ask 204 = .ok (.aload_n 0, 1) := by decide +kernel
theorem dX0_ask_205 : decode cX0_ask 205 = .ok (.getfield 31, 3) := by decide +kernel
theorem dX0_ask_208 : decode cX0_ask 208 = .ok (.iconst 0, 1) := by decide +kernel
theorem dX0_ask_209 : decode cX0_ask 209 = .ok (.iconst 2, 1) := by decide +kernel
theorem dX0_ask_210 : decode cX0_ask 210 = .ok (.iload 6, 2) := by decide +kernel
theorem dX0_ask_212 : decode cX0_ask 212 = .ok (.invokevirtual 38, 3) := by decide +kernel
theorem dX0_ask_215 : decode cX0_ask 215 = .ok (.iadd, 1) := by decide +kernel
theorem dX0_ask_216 : decode cX0_ask 216 = .ok (.ireturn, 1) := by decide +kernel
theorem dX0_ask_217 : decode cX0_ask 217 = .ok (.aload_n 0, 1) := by decide +kernel
theorem dX0_ask_218 : decode cX0_ask 218 = .ok (.iconst 3, 1) := by decide +kernel
theorem dX0_ask_219 : decode cX0_ask 219 = .ok (.iconst 0, 1) := by decide +kernel
theorem dX0_ask_220 : decode cX0_ask 220 = .ok (.iload_n 3, 1) := by decide +kernel
theorem dX0_ask_221 : decode cX0_ask 221 = .ok (.iload 6, 2) := by decide +kernel
theorem dX0_ask_223 : decode cX0_ask 223 = .ok (.invokevirtual 38, 3) := by decide +kernel
theorem dX0_ask_226 : decode cX0_ask 226 = .ok (.aload_n 0, 1) := by decide +kernel
theorem dX0_ask_227 : decode cX0_ask 227 = .ok (.getfield 25, 3) := by decide +kernel
theorem dX0_ask_230 : decode cX0_ask 230 = .ok (.ixor, 1) := by decide +kernel
theorem dX0_ask_231 : decode cX0_ask 231 = .ok (.ireturn, 1) := by decide +kernel
theorem dX0_ask_232 : decode cX0_ask 232 = .ok (.aload_n 0, 1) := by decide +kernel
theorem dX0_ask_233 : decode cX0_ask 233 = .ok (.iconst 3, 1) := by decide +kernel
theorem dX0_ask_234 : decode cX0_ask 234 = .ok (.iconst 1, 1) := by decide +kernel
theorem dX0_ask_235 : decode cX0_ask 235 = .ok (.iload_n 3, 1) := by decide +kernel
theorem dX0_ask_236 : decode cX0_ask 236 = .ok (.iload 6, 2) := by decide +kernel
theorem dX0_ask_238 : decode cX0_ask 238 = .ok (.invokevirtual 38, 3) := by decide +kernel
theorem dX0_ask_241 : decode cX0_ask 241 = .ok (.aload_n 0, 1) := by decide +kernel
theorem dX0_ask_242 : decode cX0_ask 242 = .ok (.getfield 36, 3) := by decide +kernel
theorem dX0_ask_245 : decode cX0_ask 245 = .ok (.iadd, 1) := by decide +kernel
theorem dX0_ask_246 : decode cX0_ask 246 = .ok (.ireturn, 1) := by decide +kernel
theorem dX0_ask_247 : decode cX0_ask 247 = .ok (.iconst 0, 1) := by decide +kernel
theorem dX0_ask_248 : decode cX0_ask 248 = .ok (.ireturn, 1) := by decide +kernel
theorem dX1_init_0 : decode cX1_init 0 = .ok (.aload_n 0, 1) := by decide +kernel
theorem dX1_init_1 : decode cX1_init 1 = .ok (.invokespecial 5, 3) := by decide +kernel
theorem dX1_init_4 : decode cX1_init 4 = .ok (.aload_n 0, 1) := by decide +kernel
theorem dX1_init_5 : decode cX1_init 5 = .ok (.iconst 4, 1) := by decide +kernel
theorem dX1_init_6 : decode cX1_init 6 = .ok (.bipush 96, 2) := by decide +kernel
theorem dX1_init_8 : decode cX1_init 8 = .ok (.multianewarray 11 2, 4) := by decide +kernel
theorem dX1_init_12 : decode cX1_init 12 = .ok (.putfield 13, 3) := by decide +kernel
theorem dX1_init_15 : decode cX1_init 15 = .ok (.aload_n 0, 1) := by decide +kernel
theorem dX1_init_16 : decode cX1_init 16 = .ok (.iconst 4, 1) := by decide +kernel
theorem dX1_init_17 : decode cX1_init 17 = .ok (.newarray .int, 2) := by decide +kernel
theorem dX1_init_19 : decode cX1_init 19 = .ok (.putfield 16, 3) := by decide +kernel
theorem dX1_init_22 : decode cX1_init 22 = .ok (.aload_n 0, 1) := by decide +kernel
theorem dX1_init_23 : decode cX1_init 23 = .ok (.bipush 6, 2) := by decide +kernel
theorem dX1_init_25 : decode cX1_init 25 = .ok (.newarray .int, 2) := by decide +kernel
theorem dX1_init_27 : decode cX1_init 27 = .ok (.putfield 20, 3) := by decide +kernel
theorem dX1_init_30 : decode cX1_init 30 = .ok (.aload_n 0, 1) := by decide +kernel
theorem dX1_init_31 : decode cX1_init 31 = .ok (.iconst 4, 1) := by decide +kernel
theorem dX1_init_32 : decode cX1_init 32 = .ok (.bipush 64, 2) := by decide +kernel
theorem dX1_init_34 : decode cX1_init 34 = .ok (.multianewarray 11 2, 4) := by decide +kernel
theorem dX1_init_38 : decode cX1_init 38 = .ok (.putfield 23, 3) := by decide +kernel
theorem dX1_init_41 : decode cX1_init 41 = .ok (.aload_n 0, 1) := by decide +kernel
theorem dX1_init_42 : decode cX1_init 42 = .ok (.aload_n 1, 1) := by decide +kernel
theorem dX1_init_43 : decode cX1_init 43 = .ok (.putfield 26, 3) := by decide +kernel
theorem dX1_init_46 : decode cX1_init 46 = .ok (.iconst 0, 1) := by decide +kernel
theorem dX1_init_47 : decode cX1_init 47 = .ok (.istore_n 2, 1) := by decide +kernel
theorem dX1_init_48 : decode cX1_init 48 = .ok (.iload_n 2, 1) := by decide +kernel
theorem dX1_init_49 : decode cX1_init 49 = .ok (.iconst 4, 1) := by decide +kernel
theorem dX1_init_50 : decode cX1_init 50 = .ok (.if_icmp .ge 16, 3) := by decide +kernel
theorem dX1_init_53 : decode cX1_init 53 = .ok (.aload_n 0, 1) := by decide +kernel
theorem dX1_init_54 : decode cX1_init 54 = .ok (.getfield 16, 3) := by decide +kernel
theorem dX1_init_57 : decode cX1_init 57 = .ok (.iload_n 2, 1) := by decide +kernel
theorem dX1_init_58 : decode cX1_init 58 = .ok (.iconst (-1), 1) := by decide +kernel
theorem dX1_init_59 : decode cX1_init 59 = .ok (.iastore, 1) := by decide +kernel
theorem dX1_init_60 : decode cX1_init 60 = .ok (.iinc 2 1, 3) := by decide +kernel
theorem dX1_init_63 : decode cX1_init 63 = .ok (.goto (-15), 3) := by decide +kernel
theorem dX1_init_66 : decode cX1_init 66 = .ok (.return_, 1) := by decide +kernel
theorem dX1_forget_0 : decode cX1_forget 0 = .ok (.aload_n 0, 1) := by decide +kernel
theorem dX1_forget_1 : decode cX1_forget 1 = .ok (.iconst 0, 1) := by decide +kernel
theorem dX1_forget_2 : decode cX1_forget 2 = .ok (.putfield 30, 3) := by decide +kernel
theorem dX1_forget_5 : decode cX1_forget 5 = .ok (.aload_n 0, 1) := by decide +kernel
theorem dX1_forget_6 : decode cX1_forget 6 = .ok (.iconst 0, 1) := by decide +kernel
theorem dX1_forget_7 : decode cX1_forget 7 = .ok (.putfield 34, 3) := by decide +kernel
theorem dX1_forget_10 : decode cX1_forget 10 = .ok (.return_, 1) := by decide +kernel
theorem dX1_forgetTown_0 : decode cX1_forgetTown 0 = .ok (.aload_n 0, 1) := by decide +kernel
theorem dX1_forgetTown_1 : decode cX1_forgetTown 1 = .ok (.invokevirtual 37, 3) := by decide +kernel
theorem dX1_forgetTown_4 : decode cX1_forgetTown 4 = .ok (.iconst 0, 1) := by decide +kernel
theorem dX1_forgetTown_5 : decode cX1_forgetTown 5 = .ok (.istore_n 1, 1) := by decide +kernel
theorem dX1_forgetTown_6 : decode cX1_forgetTown 6 = .ok (.iload_n 1, 1) := by decide +kernel
theorem dX1_forgetTown_7 : decode cX1_forgetTown 7 = .ok (.iconst 4, 1) := by decide +kernel
theorem dX1_forgetTown_8 : decode cX1_forgetTown 8 = .ok (.if_icmp .ge 16, 3) := by decide +kernel
theorem dX1_forgetTown_11 : decode cX1_forgetTown 11 = .ok (.aload_n 0, 1) := by decide +kernel
theorem dX1_forgetTown_12 : decode cX1_forgetTown 12 = .ok (.getfield 16, 3) := by decide +kernel
theorem dX1_forgetTown_15 : decode cX1_forgetTown 15 = .ok (.iload_n 1, 1) := by decide +kernel
theorem dX1_forgetTown_16 : decode cX1_forgetTown 16 = .ok (.iconst (-1), 1) := by decide +kernel
theorem dX1_forgetTown_17 : decode cX1_forgetTown 17 = .ok (.iastore, 1) := by decide +kernel
theorem dX1_forgetTown_18 : decode cX1_forgetTown 18 = .ok (.iinc 1 1, 3) := by decide +kernel
theorem dX1_forgetTown_21 : decode cX1_forgetTown 21 = .ok (.goto (-15), 3) := by decide +kernel
theorem dX1_forgetTown_24 : decode cX1_forgetTown 24 = .ok (.return_, 1) := by decide +kernel
theorem dX1_prepare_0 : decode cX1_prepare 0 = .ok (.aload_n 0, 1) := by decide +kernel
theorem dX1_prepare_1 : decode cX1_prepare 1 = .ok (.getfield 30, 3) := by decide +kernel
theorem dX1_prepare_4 : decode cX1_prepare 4 = .ok (.ifCond .eq 4, 3) := by decide +kernel
theorem dX1_prepare_7 : decode cX1_prepare 7 = .ok (.return_, 1) := by decide +kernel
theorem dX1_prepare_8 : decode cX1_prepare 8 = .ok (.iconst 0, 1) := by decide +kernel
theorem dX1_prepare_9 : decode cX1_prepare 9 = .ok (.istore_n 2, 1) := by decide +kernel
theorem dX1_prepare_10 : decode cX1_prepare 10 = .ok (.iload_n 2, 1) := by decide +kernel
theorem dX1_prepare_11 : decode cX1_prepare 11 = .ok (.aload_n 0, 1) := by decide +kernel
theorem dX1_prepare_12 : decode cX1_prepare 12 = .ok (.getfield 26, 3) := by decide +kernel
theorem dX1_prepare_15 : decode cX1_prepare 15 = .ok (.getfield 40, 3) := by decide +kernel
theorem dX1_prepare_18 : decode cX1_prepare 18 = .ok (.if_icmp .ge 128, 3) := by decide +kernel
theorem dX1_prepare_21 : decode cX1_prepare 21 = .ok (.iload_n 2, 1) := by decide +kernel
theorem dX1_prepare_22 : decode cX1_prepare 22 = .ok (.iconst 4, 1) := by decide +kernel
theorem dX1_prepare_23 : decode cX1_prepare 23 = .ok (.if_icmp .ge 123, 3) := by decide +kernel
theorem dX1_prepare_26 : decode cX1_prepare 26 = .ok (.aload_n 0, 1) := by decide +kernel
theorem dX1_prepare_27 : decode cX1_prepare 27 = .ok (.iload_n 2, 1) := by decide +kernel
theorem dX1_prepare_28 : decode cX1_prepare 28 = .ok (.aload_n 1, 1) := by decide +kernel
theorem dX1_prepare_29 : decode cX1_prepare 29 = .ok (.invokevirtual 46, 3) := by decide +kernel
theorem dX1_prepare_32 : decode cX1_prepare 32 = .ok (.aload_n 0, 1) := by decide +kernel
theorem dX1_prepare_33 : decode cX1_prepare 33 = .ok (.iload_n 2, 1) := by decide +kernel
theorem dX1_prepare_34 : decode cX1_prepare 34 = .ok (.aload_n 0, 1) := by decide +kernel
theorem dX1_prepare_35 : decode cX1_prepare 35 = .ok (.getfield 26, 3) := by decide +kernel
theorem dX1_prepare_38 : decode cX1_prepare 38 = .ok (.getfield 50, 3) := by decide +kernel
theorem dX1_prepare_41 : decode cX1_prepare 41 = .ok (.invokevirtual 53, 3) := by decide +kernel
theorem dX1_prepare_44 : decode cX1_prepare 44 = .ok (.istore_n 3, 1) := by decide +kernel
theorem dX1_prepare_45 : decode cX1_prepare 45 = .ok (.iconst 0, 1) := by decide +kernel
theorem dX1_prepare_46 : decode cX1_prepare 46 = .ok (.istore 4, 2) := by decide +kernel
theorem dX1_prepare_48 : decode cX1_prepare 48 = .ok (.iload 4, 2) := by decide +kernel
theorem dX1_prepare_50 : decode cX1_prepare 50 = .ok (.bipush 64, 2) := by decide +kernel
theorem dX1_prepare_52 : decode cX1_prepare 52 = .ok (.if_icmp .ge 88, 3) := by decide +kernel
theorem dX1_prepare_55 : decode cX1_prepare 55 = .ok (.iconst 0, 1) := by decide +kernel
theorem dX1_prepare_56 : decode cX1_prepare 56 = .ok (.istore 5, 2) := by decide +kernel
theorem dX1_prepare_58 : decode cX1_prepare 58 = .ok (.iconst 0, 1) := by decide +kernel
theorem dX1_prepare_59 : decode cX1_prepare 59 = .ok (.istore 6, 2) := by decide +kernel
theorem dX1_prepare_61 : decode cX1_prepare 61 = .ok (.iconst 0, 1) := by decide +kernel
theorem dX1_prepare_62 : decode cX1_prepare 62 = .ok (.istore 7, 2) := by decide +kernel
theorem dX1_prepare_64 : decode cX1_prepare 64 = .ok (.iload 7, 2) := by decide +kernel
theorem dX1_prepare_66 : decode cX1_prepare 66 = .ok (.bipush 8, 2) := by decide +kernel
theorem dX1_prepare_68 : decode cX1_prepare 68 = .ok (.if_icmp .ge 55, 3) := by decide +kernel
theorem dX1_prepare_71 : decode cX1_prepare 71 = .ok (.iload 7, 2) := by decide +kernel
theorem dX1_prepare_73 : decode cX1_prepare 73 = .ok (.ifCond .eq 16, 3) := by decide +kernel
theorem dX1_prepare_76 : decode cX1_prepare 76 = .ok (.aload_n 0, 1) := by decide +kernel
theorem dX1_prepare_77 : decode cX1_prepare 77 = .ok (.getfield 26, 3) := by decide +kernel
theorem dX1_prepare_80 : decode cX1_prepare 80 = .ok (.getfield 57, 3) := by decide +kernel
theorem dX1_prepare_83 : decode cX1_prepare 83 = .ok (.iload_n 2, 1) := by decide +kernel
theorem dX1_prepare_84 : decode cX1_prepare 84 = .ok (.iaload, 1) := by decide +kernel
theorem dX1_prepare_85 : decode cX1_prepare 85 = .ok (.iconst 1, 1) := by decide +kernel
theorem dX1_prepare_86 : decode cX1_prepare 86 = .ok (.if_icmp .eq 19, 3) := by decide +kernel
theorem dX1_prepare_89 : decode cX1_prepare 89 = .ok (.aload_n 0, 1) := by decide +kernel
theorem dX1_prepare_90 : decode cX1_prepare 90 = .ok (.iload_n 2, 1) := by decide +kernel
theorem dX1_prepare_91 : decode cX1_prepare 91 = .ok (.iload 4, 2) := by decide +kernel
theorem dX1_prepare_93 : decode cX1_prepare 93 = .ok (.bipush 8, 2) := by decide +kernel
theorem dX1_prepare_95 : decode cX1_prepare 95 = .ok (.imul, 1) := by decide +kernel
theorem dX1_prepare_96 : decode cX1_prepare 96 = .ok (.iload 7, 2) := by decide +kernel
theorem dX1_prepare_98 : decode cX1_prepare 98 = .ok (.iadd, 1) := by decide +kernel
theorem dX1_prepare_99 : decode cX1_prepare 99 = .ok (.iload_n 3, 1) := by decide +kernel
theorem dX1_prepare_100 : decode cX1_prepare 100 = .ok (.invokevirtual 60, 3) := by decide +kernel
theorem dX1_prepare_103 : decode cX1_prepare 103 = .ok (.istore 6, 2) := by decide +kernel
theorem dX1_prepare_105 : decode cX1_prepare 105 = .ok (.iload 5, 2) := by decide +kernel
theorem dX1_prepare_107 : decode cX1_prepare 107 = .ok (.iload 6, 2) := by decide +kernel
theorem dX1_prepare_109 : decode cX1_prepare 109 = .ok (.iconst 3, 1) := by decide +kernel
theorem dX1_prepare_110 : decode cX1_prepare 110 = .ok (.iload 7, 2) := by decide +kernel
theorem dX1_prepare_112 : decode cX1_prepare 112 = .ok (.imul, 1) := by decide +kernel
theorem dX1_prepare_113 : decode cX1_prepare 113 = .ok (.ishl, 1) := by decide +kernel
theorem dX1_prepare_114 : decode cX1_prepare 114 = .ok (.ior, 1) := by decide +kernel
theorem dX1_prepare_115 : decode cX1_prepare 115 = .ok (.istore 5, 2) := by decide +kernel
theorem dX1_prepare_117 : decode cX1_prepare 117 = .ok (.iinc 7 1, 3) := by decide +kernel
theorem dX1_prepare_120 : decode cX1_prepare 120 = .ok (.goto (-56), 3) := by decide +kernel
theorem dX1_prepare_123 : decode cX1_prepare 123 = .ok (.aload_n 0, 1) := by decide +kernel
theorem dX1_prepare_124 : decode cX1_prepare 124 = .ok (.getfield 23, 3) := by decide +kernel
theorem dX1_prepare_127 : decode cX1_prepare 127 = .ok (.iload_n 2, 1) := by decide +kernel
theorem dX1_prepare_128 : decode cX1_prepare 128 = .ok (.aaload, 1) := by decide +kernel
theorem dX1_prepare_129 : decode cX1_prepare 129 = .ok (.iload 4, 2) := by decide +kernel
theorem dX1_prepare_131 : decode cX1_prepare 131 = .ok (.iload 5, 2) := by decide +kernel
theorem dX1_prepare_133 : decode cX1_prepare 133 = .ok (.iastore, 1) := by decide +kernel
theorem dX1_prepare_134 : decode cX1_prepare 134 = .ok (.iinc 4 1, 3) := by decide +kernel
theorem dX1_prepare_137 : decode cX1_prepare 137 = .ok (.goto (-89), 3) := by decide +kernel
theorem dX1_prepare_140 : decode cX1_prepare 140 = .ok (.iinc 2 1, 3) := by decide +kernel
theorem dX1_prepare_143 : decode cX1_prepare 143 = .ok (.goto (-133), 3) := by decide +kernel
theorem dX1_prepare_146 : decode cX1_prepare 146 = .ok (.aload_n 0, 1) := by decide +kernel
theorem dX1_prepare_147 : decode cX1_prepare 147 = .ok (.iconst 1, 1) := by decide +kernel
theorem dX1_prepare_148 : decode cX1_prepare 148 = .ok (.putfield 30, 3) := by decide +kernel
theorem dX1_prepare_151 : decode cX1_prepare 151 = .ok (.return_, 1) := by decide +kernel
theorem dX1_fillWorths_0 : decode cX1_fillWorths 0 = .ok (.iload_n 1, 1) := by decide +kernel
theorem dX1_fillWorths_1 : decode cX1_fillWorths 1 = .ok (.ifCond .lt 26, 3) := by decide +kernel
theorem dX1_fillWorths_4 : decode cX1_fillWorths 4 = .ok (.iload_n 1, 1) := by decide +kernel
theorem dX1_fillWorths_5 : decode cX1_fillWorths 5 = .ok (.iconst 4, 1) := by decide +kernel
theorem dX1_fillWorths_6 : decode cX1_fillWorths 6 = .ok (.if_icmp .ge 21, 3) := by decide +kernel
theorem dX1_fillWorths_9 : decode cX1_fillWorths 9 = .ok (.aload_n 0, 1) := by decide +kernel
theorem dX1_fillWorths_10 : decode cX1_fillWorths 10 = .ok (.getfield 16, 3) := by decide +kernel
theorem dX1_fillWorths_13 : decode cX1_fillWorths 13 = .ok (.iload_n 1, 1) := by decide +kernel
theorem dX1_fillWorths_14 : decode cX1_fillWorths 14 = .ok (.iaload, 1) := by decide +kernel
theorem dX1_fillWorths_15 : decode cX1_fillWorths 15 = .ok (.aload_n 0, 1) := by decide +kernel
theorem dX1_fillWorths_16 : decode cX1_fillWorths 16 = .ok (.getfield 26, 3) := by decide +kernel
theorem dX1_fillWorths_19 : decode cX1_fillWorths 19 = .ok (.getfield 57, 3) := by decide +kernel
theorem dX1_fillWorths_22 : decode cX1_fillWorths 22 = .ok (.iload_n 1, 1) := by decide +kernel
theorem dX1_fillWorths_23 : decode cX1_fillWorths 23 = .ok (.iaload, 1) := by decide +kernel
theorem dX1_fillWorths_24 : decode cX1_fillWorths 24 = .ok (.if_icmp .ne 4, 3) := by decide +kernel
theorem dX1_fillWorths_27 : decode cX1_fillWorths 27 = .ok (.return_, 1) := by decide +kernel
theorem dX1_fillWorths_28 : decode cX1_fillWorths 28 = .ok (.aload_n 0, 1) := by decide +kernel
theorem dX1_fillWorths_29 : decode cX1_fillWorths 29 = .ok (.getfield 20, 3) := by decide +kernel
theorem dX1_fillWorths_32 : decode cX1_fillWorths 32 = .ok (.iconst 1, 1) := by decide +kernel
theorem dX1_fillWorths_33 : decode cX1_fillWorths 33 = .ok (.iload_n 1, 1) := by decide +kernel
theorem dX1_fillWorths_34 : decode cX1_fillWorths 34 = .ok (.iastore, 1) := by decide +kernel
theorem dX1_fillWorths_35 : decode cX1_fillWorths 35 = .ok (.aload_n 0, 1) := by decide +kernel
theorem dX1_fillWorths_36 : decode cX1_fillWorths 36 = .ok (.getfield 20, 3) := by decide +kernel
theorem dX1_fillWorths_39 : decode cX1_fillWorths 39 = .ok (.iconst 5, 1) := by decide +kernel
theorem dX1_fillWorths_40 : decode cX1_fillWorths 40 = .ok (.aload_n 0, 1) := by decide +kernel
theorem dX1_fillWorths_41 : decode cX1_fillWorths 41 = .ok (.getfield 26, 3) := by decide +kernel
theorem dX1_fillWorths_44 : decode cX1_fillWorths 44 = .ok (.getfield 57, 3) := by decide +kernel
theorem dX1_fillWorths_47 : decode cX1_fillWorths 47 = .ok (.iload_n 1, 1) := by decide +kernel
theorem dX1_fillWorths_48 : decode cX1_fillWorths 48 = .ok (.iaload, 1) := by decide +kernel
theorem dX1_fillWorths_49 : decode cX1_fillWorths 49 = .ok (.iastore, 1) := by decide +kernel
theorem dX1_fillWorths_50 : decode cX1_fillWorths 50 = .ok (.iconst 0, 1) := by decide +kernel
theorem dX1_fillWorths_51 : decode cX1_fillWorths 51 = .ok (.istore_n 3, 1) := by decide +kernel
theorem dX1_fillWorths_52 : decode cX1_fillWorths 52 = .ok (.iload_n 3, 1) := by decide +kernel
theorem dX1_fillWorths_53 : decode cX1_fillWorths 53 = .ok (.bipush 96, 2) := by decide +kernel
theorem dX1_fillWorths_55 : decode cX1_fillWorths 55 = .ok (.if_icmp .ge 67, 3) := by decide +kernel
theorem dX1_fillWorths_58 : decode cX1_fillWorths 58 = .ok (.aload_n 0, 1) := by decide +kernel
theorem dX1_fillWorths_59 : decode cX1_fillWorths 59 = .ok (.getfield 20, 3) := by decide +kernel
theorem dX1_fillWorths_62 : decode cX1_fillWorths 62 = .ok (.iconst 0, 1) := by decide +kernel
theorem dX1_fillWorths_63 : decode cX1_fillWorths 63 = .ok (.iload_n 3, 1) := by decide +kernel
theorem dX1_fillWorths_64 : decode cX1_fillWorths 64 = .ok (.bipush 32, 2) := by decide +kernel
theorem dX1_fillWorths_66 : decode cX1_fillWorths 66 = .ok (.idiv, 1) := by decide +kernel
theorem dX1_fillWorths_67 : decode cX1_fillWorths 67 = .ok (.iastore, 1) := by decide +kernel
theorem dX1_fillWorths_68 : decode cX1_fillWorths 68 = .ok (.aload_n 0, 1) := by decide +kernel
theorem dX1_fillWorths_69 : decode cX1_fillWorths 69 = .ok (.getfield 20, 3) := by decide +kernel
theorem dX1_fillWorths_72 : decode cX1_fillWorths 72 = .ok (.iconst 3, 1) := by decide +kernel
theorem dX1_fillWorths_73 : decode cX1_fillWorths 73 = .ok (.iload_n 3, 1) := by decide +kernel
theorem dX1_fillWorths_74 : decode cX1_fillWorths 74 = .ok (.bipush 8, 2) := by decide +kernel
theorem dX1_fillWorths_76 : decode cX1_fillWorths 76 = .ok (.idiv, 1) := by decide +kernel
theorem dX1_fillWorths_77 : decode cX1_fillWorths 77 = .ok (.iconst 4, 1) := by decide +kernel
theorem dX1_fillWorths_78 : decode cX1_fillWorths 78 = .ok (.irem, 1) := by decide +kernel
theorem dX1_fillWorths_79 : decode cX1_fillWorths 79 = .ok (.iastore, 1) := by decide +kernel
theorem dX1_fillWorths_80 : decode cX1_fillWorths 80 = .ok (.aload_n 0, 1) := by decide +kernel
theorem dX1_fillWorths_81 : decode cX1_fillWorths 81 = .ok (.getfield 20, 3) := by decide +kernel
theorem dX1_fillWorths_84 : decode cX1_fillWorths 84 = .ok (.iconst 2, 1) := by decide +kernel
theorem dX1_fillWorths_85 : decode cX1_fillWorths 85 = .ok (.iload_n 3, 1) := by decide +kernel
theorem dX1_fillWorths_86 : decode cX1_fillWorths 86 = .ok (.iconst 2, 1) := by decide +kernel
theorem dX1_fillWorths_87 : decode cX1_fillWorths 87 = .ok (.idiv, 1) := by decide +kernel
theorem dX1_fillWorths_88 : decode cX1_fillWorths 88 = .ok (.iconst 4, 1) := by decide +kernel
theorem dX1_fillWorths_89 : decode cX1_fillWorths 89 = .ok (.irem, 1) := by decide +kernel
theorem dX1_fillWorths_90 : decode cX1_fillWorths 90 = .ok (.iastore, 1) := by decide +kernel
theorem dX1_fillWorths_91 : decode cX1_fillWorths 91 = .ok (.aload_n 0, 1) := by decide +kernel
theorem dX1_fillWorths_92 : decode cX1_fillWorths 92 = .ok (.getfield 20, 3) := by decide +kernel
theorem dX1_fillWorths_95 : decode cX1_fillWorths 95 = .ok (.iconst 4, 1) := by decide +kernel
theorem dX1_fillWorths_96 : decode cX1_fillWorths 96 = .ok (.iload_n 3, 1) := by decide +kernel
theorem dX1_fillWorths_97 : decode cX1_fillWorths 97 = .ok (.iconst 2, 1) := by decide +kernel
theorem dX1_fillWorths_98 : decode cX1_fillWorths 98 = .ok (.irem, 1) := by decide +kernel
theorem dX1_fillWorths_99 : decode cX1_fillWorths 99 = .ok (.iastore, 1) := by decide +kernel
theorem dX1_fillWorths_100 : decode cX1_fillWorths 100 = .ok (.aload_n 0, 1) := by decide +kernel
theorem dX1_fillWorths_101 : decode cX1_fillWorths 101 = .ok (.getfield 13, 3) := by decide +kernel
theorem dX1_fillWorths_104 : decode cX1_fillWorths 104 = .ok (.iload_n 1, 1) := by decide +kernel
theorem dX1_fillWorths_105 : decode cX1_fillWorths 105 = .ok (.aaload, 1) := by decide +kernel
theorem dX1_fillWorths_106 : decode cX1_fillWorths 106 = .ok (.iload_n 3, 1) := by decide +kernel
theorem dX1_fillWorths_107 : decode cX1_fillWorths 107 = .ok (.aload_n 2, 1) := by decide +kernel
theorem dX1_fillWorths_108 : decode cX1_fillWorths 108 = .ok (.aload_n 0, 1) := by decide +kernel
theorem dX1_fillWorths_109 : decode cX1_fillWorths 109 = .ok (.getfield 20, 3) := by decide +kernel
theorem dX1_fillWorths_112 : decode cX1_fillWorths 112 = .ok (.invokevirtual 64, 3) := by decide +kernel
theorem dX1_fillWorths_115 : decode cX1_fillWorths 115 = .ok (.iastore, 1) := by decide +kernel
theorem dX1_fillWorths_116 : decode cX1_fillWorths 116 = .ok (.iinc 3 1, 3) := by decide +kernel
theorem dX1_fillWorths_119 : decode cX1_fillWorths 119 = .ok (.goto (-67), 3) := by decide +kernel
theorem dX1_fillWorths_122 : decode cX1_fillWorths 122 = .ok (.aload_n 0, 1) := by decide +kernel
theorem dX1_fillWorths_123 : decode cX1_fillWorths 123 = .ok (.getfield 16, 3) := by decide +kernel
theorem dX1_fillWorths_126 : decode cX1_fillWorths 126 = .ok (.iload_n 1, 1) := by decide +kernel
theorem dX1_fillWorths_127 : decode cX1_fillWorths 127 = .ok (.aload_n 0, 1) := by decide +kernel
theorem dX1_fillWorths_128 : decode cX1_fillWorths 128 = .ok (.getfield 26, 3) := by decide +kernel
theorem dX1_fillWorths_131 : decode cX1_fillWorths 131 = .ok (.getfield 57, 3) := by decide +kernel
theorem dX1_fillWorths_134 : decode cX1_fillWorths 134 = .ok (.iload_n 1, 1) := by decide +kernel
theorem dX1_fillWorths_135 : decode cX1_fillWorths 135 = .ok (.iaload, 1) := by decide +kernel
theorem dX1_fillWorths_136 : decode cX1_fillWorths 136 = .ok (.iastore, 1) := by decide +kernel
theorem dX1_fillWorths_137 : decode cX1_fillWorths 137 = .ok (.return_, 1) := by decide +kernel
theorem dX1_sightOf_0 : decode cX1_sightOf 0 = .ok (.iload_n 1, 1) := by decide +kernel
theorem dX1_sightOf_1 : decode cX1_sightOf 1 = .ok (.iload_n 2, 1) := by decide +kernel
theorem dX1_sightOf_2 : decode cX1_sightOf 2 = .ok (.invokestatic 70, 3) := by decide +kernel
theorem dX1_sightOf_5 : decode cX1_sightOf 5 = .ok (.istore_n 3, 1) := by decide +kernel
theorem dX1_sightOf_6 : decode cX1_sightOf 6 = .ok (.sipush 585, 3) := by decide +kernel
theorem dX1_sightOf_9 : decode cX1_sightOf 9 = .ok (.iconst 1, 1) := by decide +kernel
theorem dX1_sightOf_10 : decode cX1_sightOf 10 = .ok (.iconst 3, 1) := by decide +kernel
theorem dX1_sightOf_11 : decode cX1_sightOf 11 = .ok (.iload_n 1, 1) := by decide +kernel
theorem dX1_sightOf_12 : decode cX1_sightOf 12 = .ok (.imul, 1) := by decide +kernel
theorem dX1_sightOf_13 : decode cX1_sightOf 13 = .ok (.ishl, 1) := by decide +kernel
theorem dX1_sightOf_14 : decode cX1_sightOf 14 = .ok (.iconst (-1), 1) := by decide +kernel
theorem dX1_sightOf_15 : decode cX1_sightOf 15 = .ok (.ixor, 1) := by decide +kernel
theorem dX1_sightOf_16 : decode cX1_sightOf 16 = .ok (.iand, 1) := by decide +kernel
theorem dX1_sightOf_17 : decode cX1_sightOf 17 = .ok (.istore 4, 2) := by decide +kernel
theorem dX1_sightOf_19 : decode cX1_sightOf 19 = .ok (.iconst 0, 1) := by decide +kernel
theorem dX1_sightOf_20 : decode cX1_sightOf 20 = .ok (.istore 5, 2) := by decide +kernel
theorem dX1_sightOf_22 : decode cX1_sightOf 22 = .ok (.iload 5, 2) := by decide +kernel
theorem dX1_sightOf_24 : decode cX1_sightOf 24 = .ok (.iconst 3, 1) := by decide +kernel
theorem dX1_sightOf_25 : decode cX1_sightOf 25 = .ok (.if_icmp .ge 29, 3) := by decide +kernel
theorem dX1_sightOf_28 : decode cX1_sightOf 28 = .ok (.iload_n 3, 1) := by decide +kernel
theorem dX1_sightOf_29 : decode cX1_sightOf 29 = .ok (.iload_n 2, 1) := by decide +kernel
theorem dX1_sightOf_30 : decode cX1_sightOf 30 = .ok (.iload 5, 2) := by decide +kernel
theorem dX1_sightOf_32 : decode cX1_sightOf 32 = .ok (.ishr, 1) := by decide +kernel
theorem dX1_sightOf_33 : decode cX1_sightOf 33 = .ok (.iload 4, 2) := by decide +kernel
theorem dX1_sightOf_35 : decode cX1_sightOf 35 = .ok (.iand, 1) := by decide +kernel
theorem dX1_sightOf_36 : decode cX1_sightOf 36 = .ok (.invokestatic 73, 3) := by decide +kernel
theorem dX1_sightOf_39 : decode cX1_sightOf 39 = .ok (.iconst 3, 1) := by decide +kernel
theorem dX1_sightOf_40 : decode cX1_sightOf 40 = .ok (.iconst 2, 1) := by decide +kernel
theorem dX1_sightOf_41 : decode cX1_sightOf 41 = .ok (.iload 5, 2) := by decide +kernel
theorem dX1_sightOf_43 : decode cX1_sightOf 43 = .ok (.imul, 1) := by decide +kernel
theorem dX1_sightOf_44 : decode cX1_sightOf 44 = .ok (.iadd, 1) := by decide +kernel
theorem dX1_sightOf_45 : decode cX1_sightOf 45 = .ok (.ishl, 1) := by decide +kernel
theorem dX1_sightOf_46 : decode cX1_sightOf 46 = .ok (.ior, 1) := by decide +kernel
theorem dX1_sightOf_47 : decode cX1_sightOf 47 = .ok (.istore_n 3, 1) := by decide +kernel
theorem dX1_sightOf_48 : decode cX1_sightOf 48 = .ok (.iinc 5 1, 3) := by decide +kernel
theorem dX1_sightOf_51 : decode cX1_sightOf 51 = .ok (.goto (-29), 3) := by decide +kernel
theorem dX1_sightOf_54 : decode cX1_sightOf 54 = .ok (.iload_n 3, 1) := by decide +kernel
theorem dX1_sightOf_55 : decode cX1_sightOf 55 = .ok (.sipush 511, 3) := by decide +kernel
theorem dX1_sightOf_58 : decode cX1_sightOf 58 = .ok (.iand, 1) := by decide +kernel
theorem dX1_sightOf_59 : decode cX1_sightOf 59 = .ok (.ireturn, 1) := by decide +kernel
theorem dX1_worth_0 : decode cX1_worth 0 = .ok (.iload_n 1, 1) := by decide +kernel
theorem dX1_worth_1 : decode cX1_worth 1 = .ok (.ifCond .lt 17, 3) := by decide +kernel
theorem dX1_worth_4 : decode cX1_worth 4 = .ok (.iload_n 1, 1) := by decide +kernel
theorem dX1_worth_5 : decode cX1_worth 5 = .ok (.iconst 4, 1) := by decide +kernel
theorem dX1_worth_6 : decode cX1_worth 6 = .ok (.if_icmp .ge 12, 3) := by decide +kernel
theorem dX1_worth_9 : decode cX1_worth 9 = .ok (.iload_n 2, 1) := by decide +kernel
theorem dX1_worth_10 : decode cX1_worth 10 = .ok (.ifCond .lt 8, 3) := by decide +kernel
theorem dX1_worth_13 : decode cX1_worth 13 = .ok (.iload_n 2, 1) := by decide +kernel
theorem dX1_worth_14 : decode cX1_worth 14 = .ok (.iconst 3, 1) := by decide +kernel
theorem dX1_worth_15 : decode cX1_worth 15 = .ok (.if_icmp .lt 5, 3) := by decide +kernel
theorem dX1_worth_18 : decode cX1_worth 18 = .ok (.iconst 0, 1) := by decide +kernel
theorem dX1_worth_19 : decode cX1_worth 19 = .ok (.ireturn, 1) := by decide +kernel
theorem dX1_worth_20 : decode cX1_worth 20 = .ok (.iload_n 2, 1) := by decide +kernel
theorem dX1_worth_21 : decode cX1_worth 21 = .ok (.ifCond .ne 14, 3) := by decide +kernel
theorem dX1_worth_24 : decode cX1_worth 24 = .ok (.iload_n 3, 1) := by decide +kernel
theorem dX1_worth_25 : decode cX1_worth 25 = .ok (.iconst 3, 1) := by decide +kernel
theorem dX1_worth_26 : decode cX1_worth 26 = .ok (.ishr, 1) := by decide +kernel
theorem dX1_worth_27 : decode cX1_worth 27 = .ok (.iconst 2, 1) := by decide +kernel
theorem dX1_worth_28 : decode cX1_worth 28 = .ok (.ishl, 1) := by decide +kernel
theorem dX1_worth_29 : decode cX1_worth 29 = .ok (.bipush 12, 2) := by decide +kernel
theorem dX1_worth_31 : decode cX1_worth 31 = .ok (.iand, 1) := by decide +kernel
theorem dX1_worth_32 : decode cX1_worth 32 = .ok (.goto 15, 3) := by decide +kernel
theorem dX1_worth_35 : decode cX1_worth 35 = .ok (.iload_n 3, 1) := by decide +kernel
theorem dX1_worth_36 : decode cX1_worth 36 = .ok (.iconst 3, 1) := by decide +kernel
theorem dX1_worth_37 : decode cX1_worth 37 = .ok (.iconst 2, 1) := by decide +kernel
theorem dX1_worth_38 : decode cX1_worth 38 = .ok (.iload_n 2, 1) := by decide +kernel
theorem dX1_worth_39 : decode cX1_worth 39 = .ok (.iconst 1, 1) := by decide +kernel
theorem dX1_worth_40 : decode cX1_worth 40 = .ok (.isub, 1) := by decide +kernel
theorem dX1_worth_41 : decode cX1_worth 41 = .ok (.imul, 1) := by decide +kernel
theorem dX1_worth_42 : decode cX1_worth 42 = .ok (.iadd, 1) := by decide +kernel
theorem dX1_worth_43 : decode cX1_worth 43 = .ok (.ishr, 1) := by decide +kernel
theorem dX1_worth_44 : decode cX1_worth 44 = .ok (.bipush 15, 2) := by decide +kernel
theorem dX1_worth_46 : decode cX1_worth 46 = .ok (.iand, 1) := by decide +kernel
theorem dX1_worth_47 : decode cX1_worth 47 = .ok (.istore 4, 2) := by decide +kernel
theorem dX1_worth_49 : decode cX1_worth 49 = .ok (.iload_n 2, 1) := by decide +kernel
theorem dX1_worth_50 : decode cX1_worth 50 = .ok (.ifCond .ne 15, 3) := by decide +kernel
theorem dX1_worth_53 : decode cX1_worth 53 = .ok (.aload_n 0, 1) := by decide +kernel
theorem dX1_worth_54 : decode cX1_worth 54 = .ok (.getfield 26, 3) := by decide +kernel
theorem dX1_worth_57 : decode cX1_worth 57 = .ok (.getfield 79, 3) := by decide +kernel
theorem dX1_worth_60 : decode cX1_worth 60 = .ok (.iload_n 1, 1) := by decide +kernel
theorem dX1_worth_61 : decode cX1_worth 61 = .ok (.ishr, 1) := by decide +kernel
theorem dX1_worth_62 : decode cX1_worth 62 = .ok (.goto 8, 3) := by decide +kernel
theorem dX1_worth_65 : decode cX1_worth 65 = .ok (.iload_n 3, 1) := by decide +kernel
theorem dX1_worth_66 : decode cX1_worth 66 = .ok (.iload_n 2, 1) := by decide +kernel
theorem dX1_worth_67 : decode cX1_worth 67 = .ok (.iconst 1, 1) := by decide +kernel
theorem dX1_worth_68 : decode cX1_worth 68 = .ok (.isub, 1) := by decide +kernel
theorem dX1_worth_69 : decode cX1_worth 69 = .ok (.ishr, 1) := by decide +kernel
theorem dX1_worth_70 : decode cX1_worth 70 = .ok (.iconst 1, 1) := by decide +kernel
theorem dX1_worth_71 : decode cX1_worth 71 = .ok (.iand, 1) := by decide +kernel
theorem dX1_worth_72 : decode cX1_worth 72 = .ok (.istore 5, 2) := by decide +kernel
theorem dX1_worth_74 : decode cX1_worth 74 = .ok (.iload_n 2, 1) := by decide +kernel
theorem dX1_worth_75 : decode cX1_worth 75 = .ok (.iconst 4, 1) := by decide +kernel
theorem dX1_worth_76 : decode cX1_worth 76 = .ok (.imul, 1) := by decide +kernel
theorem dX1_worth_77 : decode cX1_worth 77 = .ok (.iconst 4, 1) := by decide +kernel
theorem dX1_worth_78 : decode cX1_worth 78 = .ok (.imul, 1) := by decide +kernel
theorem dX1_worth_79 : decode cX1_worth 79 = .ok (.iload 4, 2) := by decide +kernel
theorem dX1_worth_81 : decode cX1_worth 81 = .ok (.iadd, 1) := by decide +kernel
theorem dX1_worth_82 : decode cX1_worth 82 = .ok (.iconst 2, 1) := by decide +kernel
theorem dX1_worth_83 : decode cX1_worth 83 = .ok (.imul, 1) := by decide +kernel
theorem dX1_worth_84 : decode cX1_worth 84 = .ok (.iload 5, 2) := by decide +kernel
theorem dX1_worth_86 : decode cX1_worth 86 = .ok (.iadd, 1) := by decide +kernel
theorem dX1_worth_87 : decode cX1_worth 87 = .ok (.istore 6, 2) := by decide +kernel
theorem dX1_worth_89 : decode cX1_worth 89 = .ok (.iload 6, 2) := by decide +kernel
theorem dX1_worth_91 : decode cX1_worth 91 = .ok (.ifCond .lt 22, 3) := by decide +kernel
theorem dX1_worth_94 : decode cX1_worth 94 = .ok (.iload 6, 2) := by decide +kernel
theorem dX1_worth_96 : decode cX1_worth 96 = .ok (.bipush 96, 2) := by decide +kernel
theorem dX1_worth_98 : decode cX1_worth 98 = .ok (.if_icmp .ge 15, 3) := by decide +kernel
theorem dX1_worth_101 : decode cX1_worth 101 = .ok (.aload_n 0, 1) := by decide +kernel
theorem dX1_worth_102 : decode cX1_worth 102 = .ok (.getfield 13, 3) := by decide +kernel
theorem dX1_worth_105 : decode cX1_worth 105 = .ok (.iload_n 1, 1) := by decide +kernel
theorem dX1_worth_106 : decode cX1_worth 106 = .ok (.aaload, 1) := by decide +kernel
theorem dX1_worth_107 : decode cX1_worth 107 = .ok (.iload 6, 2) := by decide +kernel
theorem dX1_worth_109 : decode cX1_worth 109 = .ok (.iaload, 1) := by decide +kernel
theorem dX1_worth_110 : decode cX1_worth 110 = .ok (.goto 4, 3) := by decide +kernel
theorem dX1_worth_113 : decode cX1_worth 113 = .ok (.iconst 0, 1) := by decide +kernel
theorem dX1_worth_114 : decode cX1_worth 114 = .ok (.ireturn, 1) := by decide +kernel
theorem dX1_gain_0 : decode cX1_gain 0 = .ok (.iconst 0, 1) := by decide +kernel
theorem dX1_gain_1 : decode cX1_gain 1 = .ok (.istore_n 3, 1) := by decide +kernel
theorem dX1_gain_2 : decode cX1_gain 2 = .ok (.iconst 0, 1) := by decide +kernel
theorem dX1_gain_3 : decode cX1_gain 3 = .ok (.istore 4, 2) := by decide +kernel
theorem dX1_gain_5 : decode cX1_gain 5 = .ok (.iload 4, 2) := by decide +kernel
theorem dX1_gain_7 : decode cX1_gain 7 = .ok (.iconst 3, 1) := by decide +kernel
theorem dX1_gain_8 : decode cX1_gain 8 = .ok (.if_icmp .ge 30, 3) := by decide +kernel
theorem dX1_gain_11 : decode cX1_gain 11 = .ok (.iload_n 2, 1) := by decide +kernel
theorem dX1_gain_12 : decode cX1_gain 12 = .ok (.iload 4, 2) := by decide +kernel
theorem dX1_gain_14 : decode cX1_gain 14 = .ok (.invokestatic 82, 3) := by decide +kernel
theorem dX1_gain_17 : decode cX1_gain 17 = .ok (.iconst 1, 1) := by decide +kernel
theorem dX1_gain_18 : decode cX1_gain 18 = .ok (.if_icmp .ne 14, 3) := by decide +kernel
theorem dX1_gain_21 : decode cX1_gain 21 = .ok (.iload_n 3, 1) := by decide +kernel
theorem dX1_gain_22 : decode cX1_gain 22 = .ok (.aload_n 0, 1) := by decide +kernel
theorem dX1_gain_23 : decode cX1_gain 23 = .ok (.iload_n 1, 1) := by decide +kernel
theorem dX1_gain_24 : decode cX1_gain 24 = .ok (.iload 4, 2) := by decide +kernel
theorem dX1_gain_26 : decode cX1_gain 26 = .ok (.iload_n 2, 1) := by decide +kernel
theorem dX1_gain_27 : decode cX1_gain 27 = .ok (.invokevirtual 85, 3) := by decide +kernel
theorem dX1_gain_30 : decode cX1_gain 30 = .ok (.iadd, 1) := by decide +kernel
theorem dX1_gain_31 : decode cX1_gain 31 = .ok (.istore_n 3, 1) := by decide +kernel
theorem dX1_gain_32 : decode cX1_gain 32 = .ok (.iinc 4 1, 3) := by decide +kernel
theorem dX1_gain_35 : decode cX1_gain 35 = .ok (.goto (-30), 3) := by decide +kernel
theorem dX1_gain_38 : decode cX1_gain 38 = .ok (.iload_n 3, 1) := by decide +kernel
theorem dX1_gain_39 : decode cX1_gain 39 = .ok (.ireturn, 1) := by decide +kernel
theorem dX1_rowAt_0 : decode cX1_rowAt 0 = .ok (.aload_n 0, 1) := by decide +kernel
theorem dX1_rowAt_1 : decode cX1_rowAt 1 = .ok (.getfield 26, 3) := by decide +kernel
theorem dX1_rowAt_4 : decode cX1_rowAt 4 = .ok (.getfield 57, 3) := by decide +kernel
theorem dX1_rowAt_7 : decode cX1_rowAt 7 = .ok (.iload_n 1, 1) := by decide +kernel
theorem dX1_rowAt_8 : decode cX1_rowAt 8 = .ok (.iaload, 1) := by decide +kernel
theorem dX1_rowAt_9 : decode cX1_rowAt 9 = .ok (.istore 4, 2) := by decide +kernel
theorem dX1_rowAt_11 : decode cX1_rowAt 11 = .ok (.iload 4, 2) := by decide +kernel
theorem dX1_rowAt_13 : decode cX1_rowAt 13 = .ok (.bipush 6, 2) := by decide +kernel
theorem dX1_rowAt_15 : decode cX1_rowAt 15 = .ok (.if_icmp .ne 13, 3) := by decide +kernel
theorem dX1_rowAt_18 : decode cX1_rowAt 18 = .ok (.aload_n 0, 1) := by decide +kernel
theorem dX1_rowAt_19 : decode cX1_rowAt 19 = .ok (.getfield 26, 3) := by decide +kernel
theorem dX1_rowAt_22 : decode cX1_rowAt 22 = .ok (.getfield 87, 3) := by decide +kernel
theorem dX1_rowAt_25 : decode cX1_rowAt 25 = .ok (.iload_n 1, 1) := by decide +kernel
theorem dX1_rowAt_26 : decode cX1_rowAt 26 = .ok (.iaload, 1) := by decide +kernel
theorem dX1_rowAt_27 : decode cX1_rowAt 27 = .ok (.ireturn, 1) := by decide +kernel
theorem dX1_rowAt_28 : decode cX1_rowAt 28 = .ok (.iload 4, 2) := by decide +kernel
theorem dX1_rowAt_30 : decode cX1_rowAt 30 = .ok (.iconst 1, 1) := by decide +kernel
theorem dX1_rowAt_31 : decode cX1_rowAt 31 = .ok (.if_icmp .ne 10, 3) := by decide +kernel
theorem dX1_rowAt_34 : decode cX1_rowAt 34 = .ok (.aload_n 0, 1) := by decide +kernel
theorem dX1_rowAt_35 : decode cX1_rowAt 35 = .ok (.iload_n 1, 1) := by decide +kernel
theorem dX1_rowAt_36 : decode cX1_rowAt 36 = .ok (.iload_n 2, 1) := by decide +kernel
theorem dX1_rowAt_37 : decode cX1_rowAt 37 = .ok (.invokevirtual 90, 3) := by decide +kernel
theorem dX1_rowAt_40 : decode cX1_rowAt 40 = .ok (.ireturn, 1) := by decide +kernel
theorem dX1_rowAt_41 : decode cX1_rowAt 41 = .ok (.iconst 0, 1) := by decide +kernel
theorem dX1_rowAt_42 : decode cX1_rowAt 42 = .ok (.istore 5, 2) := by decide +kernel
theorem dX1_rowAt_44 : decode cX1_rowAt 44 = .ok (.iconst 0, 1) := by decide +kernel
theorem dX1_rowAt_45 : decode cX1_rowAt 45 = .ok (.istore 6, 2) := by decide +kernel
theorem dX1_rowAt_47 : decode cX1_rowAt 47 = .ok (.iload 6, 2) := by decide +kernel
theorem dX1_rowAt_49 : decode cX1_rowAt 49 = .ok (.iconst 3, 1) := by decide +kernel
theorem dX1_rowAt_50 : decode cX1_rowAt 50 = .ok (.if_icmp .ge 30, 3) := by decide +kernel
theorem dX1_rowAt_53 : decode cX1_rowAt 53 = .ok (.aload_n 0, 1) := by decide +kernel
theorem dX1_rowAt_54 : decode cX1_rowAt 54 = .ok (.iload_n 1, 1) := by decide +kernel
theorem dX1_rowAt_55 : decode cX1_rowAt 55 = .ok (.iload 6, 2) := by decide +kernel
theorem dX1_rowAt_57 : decode cX1_rowAt 57 = .ok (.iload_n 2, 1) := by decide +kernel
theorem dX1_rowAt_58 : decode cX1_rowAt 58 = .ok (.iload_n 3, 1) := by decide +kernel
theorem dX1_rowAt_59 : decode cX1_rowAt 59 = .ok (.invokevirtual 93, 3) := by decide +kernel
theorem dX1_rowAt_62 : decode cX1_rowAt 62 = .ok (.ifCond .eq 12, 3) := by decide +kernel
theorem dX1_rowAt_65 : decode cX1_rowAt 65 = .ok (.iload 5, 2) := by decide +kernel
theorem dX1_rowAt_67 : decode cX1_rowAt 67 = .ok (.iconst 1, 1) := by decide +kernel
theorem dX1_rowAt_68 : decode cX1_rowAt 68 = .ok (.iload 6, 2) := by decide +kernel
theorem dX1_rowAt_70 : decode cX1_rowAt 70 = .ok (.ishl, 1) := by decide +kernel
theorem dX1_rowAt_71 : decode cX1_rowAt 71 = .ok (.ior, 1) := by decide +kernel
theorem dX1_rowAt_72 : decode cX1_rowAt 72 = .ok (.istore 5, 2) := by decide +kernel
theorem dX1_rowAt_74 : decode cX1_rowAt 74 = .ok (.iinc 6 1, 3) := by decide +kernel
theorem dX1_rowAt_77 : decode cX1_rowAt 77 = .ok (.goto (-30), 3) := by decide +kernel
theorem dX1_rowAt_80 : decode cX1_rowAt 80 = .ok (.iload 5, 2) := by decide +kernel
theorem dX1_rowAt_82 : decode cX1_rowAt 82 = .ok (.ireturn, 1) := by decide +kernel
theorem dX1_bestRow_0 : decode cX1_bestRow 0 = .ok (.iload_n 2, 1) := by decide +kernel
theorem dX1_bestRow_1 : decode cX1_bestRow 1 = .ok (.bipush (-8), 2) := by decide +kernel
theorem dX1_bestRow_3 : decode cX1_bestRow 3 = .ok (.iand, 1) := by decide +kernel
theorem dX1_bestRow_4 : decode cX1_bestRow 4 = .ok (.istore_n 3, 1) := by decide +kernel
theorem dX1_bestRow_5 : decode cX1_bestRow 5 = .ok (.iconst 0, 1) := by decide +kernel
theorem dX1_bestRow_6 : decode cX1_bestRow 6 = .ok (.istore 4, 2) := by decide +kernel
theorem dX1_bestRow_8 : decode cX1_bestRow 8 = .ok (.iconst 0, 1) := by decide +kernel
theorem dX1_bestRow_9 : decode cX1_bestRow 9 = .ok (.istore 5, 2) := by decide +kernel
theorem dX1_bestRow_11 : decode cX1_bestRow 11 = .ok (.iconst 1, 1) := by decide +kernel
theorem dX1_bestRow_12 : decode cX1_bestRow 12 = .ok (.istore 6, 2) := by decide +kernel
theorem dX1_bestRow_14 : decode cX1_bestRow 14 = .ok (.iload 6, 2) := by decide +kernel
theorem dX1_bestRow_16 : decode cX1_bestRow 16 = .ok (.bipush 8, 2) := by decide +kernel
theorem dX1_bestRow_18 : decode cX1_bestRow 18 = .ok (.if_icmp .ge 35, 3) := by decide +kernel
theorem dX1_bestRow_21 : decode cX1_bestRow 21 = .ok (.aload_n 0, 1) := by decide +kernel
theorem dX1_bestRow_22 : decode cX1_bestRow 22 = .ok (.iload_n 1, 1) := by decide +kernel
theorem dX1_bestRow_23 : decode cX1_bestRow 23 = .ok (.iload_n 3, 1) := by decide +kernel
theorem dX1_bestRow_24 : decode cX1_bestRow 24 = .ok (.iload 6, 2) := by decide +kernel
theorem dX1_bestRow_26 : decode cX1_bestRow 26 = .ok (.ior, 1) := by decide +kernel
theorem dX1_bestRow_27 : decode cX1_bestRow 27 = .ok (.invokevirtual 97, 3) := by decide +kernel
theorem dX1_bestRow_30 : decode cX1_bestRow 30 = .ok (.istore 7, 2) := by decide +kernel
theorem dX1_bestRow_32 : decode cX1_bestRow 32 = .ok (.iload 7, 2) := by decide +kernel
theorem dX1_bestRow_34 : decode cX1_bestRow 34 = .ok (.iload 5, 2) := by decide +kernel
theorem dX1_bestRow_36 : decode cX1_bestRow 36 = .ok (.if_icmp .le 11, 3) := by decide +kernel
theorem dX1_bestRow_39 : decode cX1_bestRow 39 = .ok (.iload 7, 2) := by decide +kernel
theorem dX1_bestRow_41 : decode cX1_bestRow 41 = .ok (.istore 5, 2) := by decide +kernel
theorem dX1_bestRow_43 : decode cX1_bestRow 43 = .ok (.iload 6, 2) := by decide +kernel
theorem dX1_bestRow_45 : decode cX1_bestRow 45 = .ok (.istore 4, 2) := by decide +kernel
theorem dX1_bestRow_47 : decode cX1_bestRow 47 = .ok (.iinc 6 1, 3) := by decide +kernel
theorem dX1_bestRow_50 : decode cX1_bestRow 50 = .ok (.goto (-36), 3) := by decide +kernel
theorem dX1_bestRow_53 : decode cX1_bestRow 53 = .ok (.iload 4, 2) := by decide +kernel
theorem dX1_bestRow_55 : decode cX1_bestRow 55 = .ok (.ireturn, 1) := by decide +kernel
theorem dX1_would_0 : decode cX1_would 0 = .ok (.iload_n 3, 1) := by decide +kernel
theorem dX1_would_1 : decode cX1_would 1 = .ok (.iload_n 2, 1) := by decide +kernel
theorem dX1_would_2 : decode cX1_would 2 = .ok (.invokestatic 82, 3) := by decide +kernel
theorem dX1_would_5 : decode cX1_would 5 = .ok (.iconst 1, 1) := by decide +kernel
theorem dX1_would_6 : decode cX1_would 6 = .ok (.if_icmp .ne 7, 3) := by decide +kernel
theorem dX1_would_9 : decode cX1_would 9 = .ok (.iconst 1, 1) := by decide +kernel
theorem dX1_would_10 : decode cX1_would 10 = .ok (.goto 4, 3) := by decide +kernel
theorem dX1_would_13 : decode cX1_would 13 = .ok (.iconst 0, 1) := by decide +kernel
theorem dX1_would_14 : decode cX1_would 14 = .ok (.istore 5, 2) := by decide +kernel
theorem dX1_would_16 : decode cX1_would 16 = .ok (.aload_n 0, 1) := by decide +kernel
theorem dX1_would_17 : decode cX1_would 17 = .ok (.getfield 26, 3) := by decide +kernel
theorem dX1_would_20 : decode cX1_would 20 = .ok (.getfield 100, 3) := by decide +kernel
theorem dX1_would_23 : decode cX1_would 23 = .ok (.iload_n 1, 1) := by decide +kernel
theorem dX1_would_24 : decode cX1_would 24 = .ok (.iaload, 1) := by decide +kernel
theorem dX1_would_25 : decode cX1_would 25 = .ok (.istore 6, 2) := by decide +kernel
theorem dX1_would_27 : decode cX1_would 27 = .ok (.aload_n 0, 1) := by decide +kernel
theorem dX1_would_28 : decode cX1_would 28 = .ok (.getfield 26, 3) := by decide +kernel
theorem dX1_would_31 : decode cX1_would 31 = .ok (.getfield 57, 3) := by decide +kernel
theorem dX1_would_34 : decode cX1_would 34 = .ok (.iload_n 1, 1) := by decide +kernel
theorem dX1_would_35 : decode cX1_would 35 = .ok (.iaload, 1) := by decide +kernel
theorem dX1_would_36 : decode cX1_would 36 = .ok (.tableswitch 149 2 5 #[32, 56, 73, 111], 32) := by decide +kernel
theorem dX1_would_68 : decode cX1_would 68 = .ok (.iload 5, 2) := by decide +kernel
theorem dX1_would_70 : decode cX1_would 70 = .ok (.ifCond .eq 20, 3) := by decide +kernel
theorem dX1_would_73 : decode cX1_would 73 = .ok (.aload_n 0, 1) := by decide +kernel
theorem dX1_would_74 : decode cX1_would 74 = .ok (.iload_n 1, 1) := by decide +kernel
theorem dX1_would_75 : decode cX1_would 75 = .ok (.iload_n 2, 1) := by decide +kernel
theorem dX1_would_76 : decode cX1_would 76 = .ok (.iload_n 3, 1) := by decide +kernel
theorem dX1_would_77 : decode cX1_would 77 = .ok (.invokevirtual 85, 3) := by decide +kernel
theorem dX1_would_80 : decode cX1_would 80 = .ok (.iload 6, 2) := by decide +kernel
theorem dX1_would_82 : decode cX1_would 82 = .ok (.ineg, 1) := by decide +kernel
theorem dX1_would_83 : decode cX1_would 83 = .ok (.if_icmp .lt 7, 3) := by decide +kernel
theorem dX1_would_86 : decode cX1_would 86 = .ok (.iconst 1, 1) := by decide +kernel
theorem dX1_would_87 : decode cX1_would 87 = .ok (.goto 4, 3) := by decide +kernel
theorem dX1_would_90 : decode cX1_would 90 = .ok (.iconst 0, 1) := by decide +kernel
theorem dX1_would_91 : decode cX1_would 91 = .ok (.ireturn, 1) := by decide +kernel
theorem dX1_would_92 : decode cX1_would 92 = .ok (.aload_n 0, 1) := by decide +kernel
theorem dX1_would_93 : decode cX1_would 93 = .ok (.iload_n 1, 1) := by decide +kernel
theorem dX1_would_94 : decode cX1_would 94 = .ok (.iload_n 2, 1) := by decide +kernel
theorem dX1_would_95 : decode cX1_would 95 = .ok (.iload 4, 2) := by decide +kernel
theorem dX1_would_97 : decode cX1_would 97 = .ok (.invokevirtual 85, 3) := by decide +kernel
theorem dX1_would_100 : decode cX1_would 100 = .ok (.ifCond .le 7, 3) := by decide +kernel
theorem dX1_would_103 : decode cX1_would 103 = .ok (.iconst 1, 1) := by decide +kernel
theorem dX1_would_104 : decode cX1_would 104 = .ok (.goto 4, 3) := by decide +kernel
theorem dX1_would_107 : decode cX1_would 107 = .ok (.iconst 0, 1) := by decide +kernel
theorem dX1_would_108 : decode cX1_would 108 = .ok (.ireturn, 1) := by decide +kernel
theorem dX1_would_109 : decode cX1_would 109 = .ok (.iload_n 3, 1) := by decide +kernel
theorem dX1_would_110 : decode cX1_would 110 = .ok (.iconst 3, 1) := by decide +kernel
theorem dX1_would_111 : decode cX1_would 111 = .ok (.iconst 2, 1) := by decide +kernel
theorem dX1_would_112 : decode cX1_would 112 = .ok (.iload_n 2, 1) := by decide +kernel
theorem dX1_would_113 : decode cX1_would 113 = .ok (.imul, 1) := by decide +kernel
theorem dX1_would_114 : decode cX1_would 114 = .ok (.iadd, 1) := by decide +kernel
theorem dX1_would_115 : decode cX1_would 115 = .ok (.ishr, 1) := by decide +kernel
theorem dX1_would_116 : decode cX1_would 116 = .ok (.iconst 3, 1) := by decide +kernel
theorem dX1_would_117 : decode cX1_would 117 = .ok (.iand, 1) := by decide +kernel
theorem dX1_would_118 : decode cX1_would 118 = .ok (.iload 6, 2) := by decide +kernel
theorem dX1_would_120 : decode cX1_would 120 = .ok (.if_icmp .ge 21, 3) := by decide +kernel
theorem dX1_would_123 : decode cX1_would 123 = .ok (.iload 5, 2) := by decide +kernel
theorem dX1_would_125 : decode cX1_would 125 = .ok (.ifCond .eq 20, 3) := by decide +kernel
theorem dX1_would_128 : decode cX1_would 128 = .ok (.aload_n 0, 1) := by decide +kernel
theorem dX1_would_129 : decode cX1_would 129 = .ok (.iload_n 1, 1) := by decide +kernel
theorem dX1_would_130 : decode cX1_would 130 = .ok (.iload_n 2, 1) := by decide +kernel
theorem dX1_would_131 : decode cX1_would 131 = .ok (.iload_n 3, 1) := by decide +kernel
theorem dX1_would_132 : decode cX1_would 132 = .ok (.invokevirtual 85, 3) := by decide +kernel
theorem dX1_would_135 : decode cX1_would 135 = .ok (.iload 6, 2) := by decide +kernel
theorem dX1_would_137 : decode cX1_would 137 = .ok (.ineg, 1) := by decide +kernel
theorem dX1_would_138 : decode cX1_would 138 = .ok (.if_icmp .lt 7, 3) := by decide +kernel
theorem dX1_would_141 : decode cX1_would 141 = .ok (.iconst 1, 1) := by decide +kernel
theorem dX1_would_142 : decode cX1_would 142 = .ok (.goto 4, 3) := by decide +kernel
theorem dX1_would_145 : decode cX1_would 145 = .ok (.iconst 0, 1) := by decide +kernel
theorem dX1_would_146 : decode cX1_would 146 = .ok (.ireturn, 1) := by decide +kernel
theorem dX1_would_147 : decode cX1_would 147 = .ok (.iload_n 2, 1) := by decide +kernel
theorem dX1_would_148 : decode cX1_would 148 = .ok (.iload 6, 2) := by decide +kernel
theorem dX1_would_150 : decode cX1_would 150 = .ok (.iconst 3, 1) := by decide +kernel
theorem dX1_would_151 : decode cX1_would 151 = .ok (.irem, 1) := by decide +kernel
theorem dX1_would_152 : decode cX1_would 152 = .ok (.if_icmp .ne 16, 3) := by decide +kernel
theorem dX1_would_155 : decode cX1_would 155 = .ok (.iload 5, 2) := by decide +kernel
theorem dX1_would_157 : decode cX1_would 157 = .ok (.ifCond .ne 7, 3) := by decide +kernel
theorem dX1_would_160 : decode cX1_would 160 = .ok (.iconst 1, 1) := by decide +kernel
theorem dX1_would_161 : decode cX1_would 161 = .ok (.goto 23, 3) := by decide +kernel
theorem dX1_would_164 : decode cX1_would 164 = .ok (.iconst 0, 1) := by decide +kernel
theorem dX1_would_165 : decode cX1_would 165 = .ok (.goto 19, 3) := by decide +kernel
theorem dX1_would_168 : decode cX1_would 168 = .ok (.aload_n 0, 1) := by decide +kernel
theorem dX1_would_169 : decode cX1_would 169 = .ok (.iload_n 1, 1) := by decide +kernel
theorem dX1_would_170 : decode cX1_would 170 = .ok (.iload_n 2, 1) := by decide +kernel
theorem dX1_would_171 : decode cX1_would 171 = .ok (.iload 4, 2) := by decide +kernel
theorem dX1_would_173 : decode cX1_would 173 = .ok (.invokevirtual 85, 3) := by decide +kernel
theorem dX1_would_176 : decode cX1_would 176 = .ok (.ifCond .le 7, 3) := by decide +kernel
theorem dX1_would_179 : decode cX1_would 179 = .ok (.iconst 1, 1) := by decide +kernel
theorem dX1_would_180 : decode cX1_would 180 = .ok (.goto 4, 3) := by decide +kernel
theorem dX1_would_183 : decode cX1_would 183 = .ok (.iconst 0, 1) := by decide +kernel
theorem dX1_would_184 : decode cX1_would 184 = .ok (.ireturn, 1) := by decide +kernel
theorem dX1_would_185 : decode cX1_would 185 = .ok (.aload_n 0, 1) := by decide +kernel
theorem dX1_would_186 : decode cX1_would 186 = .ok (.iload_n 1, 1) := by decide +kernel
theorem dX1_would_187 : decode cX1_would 187 = .ok (.iload_n 2, 1) := by decide +kernel
theorem dX1_would_188 : decode cX1_would 188 = .ok (.iload_n 3, 1) := by decide +kernel
theorem dX1_would_189 : decode cX1_would 189 = .ok (.invokevirtual 85, 3) := by decide +kernel
theorem dX1_would_192 : decode cX1_would 192 = .ok (.ifCond .le 7, 3) := by decide +kernel
theorem dX1_would_195 : decode cX1_would 195 = .ok (.iconst 1, 1) := by decide +kernel
theorem dX1_would_196 : decode cX1_would 196 = .ok (.goto 4, 3) := by decide +kernel
theorem dX1_would_199 : decode cX1_would 199 = .ok (.iconst 0, 1) := by decide +kernel
theorem dX1_would_200 : decode cX1_would 200 = .ok (.ireturn, 1) := by decide +kernel
theorem dX1_answerOf_0 : decode cX1_answerOf 0 = .ok (.aload_n 0, 1) := by decide +kernel
theorem dX1_answerOf_1 : decode cX1_answerOf 1 = .ok (.getfield 26, 3) := by decide +kernel
theorem dX1_answerOf_4 : decode cX1_answerOf 4 = .ok (.iload_n 1, 1) := by decide +kernel
theorem dX1_answerOf_5 : decode cX1_answerOf 5 = .ok (.invokevirtual 103, 3) := by decide +kernel
theorem dX1_answerOf_8 : decode cX1_answerOf 8 = .ok (.ifCond .ne 5, 3) := by decide +kernel
theorem dX1_answerOf_11 : decode cX1_answerOf 11 = .ok (.iconst 0, 1) := by decide +kernel
theorem dX1_answerOf_12 : decode cX1_answerOf 12 = .ok (.ireturn, 1) := by decide +kernel
theorem dX1_answerOf_13 : decode cX1_answerOf 13 = .ok (.aload_n 0, 1) := by decide +kernel
theorem dX1_answerOf_14 : decode cX1_answerOf 14 = .ok (.iload_n 1, 1) := by decide +kernel
theorem dX1_answerOf_15 : decode cX1_answerOf 15 = .ok (.iload_n 2, 1) := by decide +kernel
theorem dX1_answerOf_16 : decode cX1_answerOf 16 = .ok (.invokevirtual 53, 3) := by decide +kernel
theorem dX1_answerOf_19 : decode cX1_answerOf 19 = .ok (.istore_n 3, 1) := by decide +kernel
theorem dX1_answerOf_20 : decode cX1_answerOf 20 = .ok (.aload_n 0, 1) := by decide +kernel
theorem dX1_answerOf_21 : decode cX1_answerOf 21 = .ok (.getfield 23, 3) := by decide +kernel
theorem dX1_answerOf_24 : decode cX1_answerOf 24 = .ok (.iload_n 1, 1) := by decide +kernel
theorem dX1_answerOf_25 : decode cX1_answerOf 25 = .ok (.aaload, 1) := by decide +kernel
theorem dX1_answerOf_26 : decode cX1_answerOf 26 = .ok (.iload_n 3, 1) := by decide +kernel
theorem dX1_answerOf_27 : decode cX1_answerOf 27 = .ok (.bipush 8, 2) := by decide +kernel
theorem dX1_answerOf_29 : decode cX1_answerOf 29 = .ok (.idiv, 1) := by decide +kernel
theorem dX1_answerOf_30 : decode cX1_answerOf 30 = .ok (.iaload, 1) := by decide +kernel
theorem dX1_answerOf_31 : decode cX1_answerOf 31 = .ok (.iconst 3, 1) := by decide +kernel
theorem dX1_answerOf_32 : decode cX1_answerOf 32 = .ok (.iload_n 3, 1) := by decide +kernel
theorem dX1_answerOf_33 : decode cX1_answerOf 33 = .ok (.bipush 7, 2) := by decide +kernel
theorem dX1_answerOf_35 : decode cX1_answerOf 35 = .ok (.iand, 1) := by decide +kernel
theorem dX1_answerOf_36 : decode cX1_answerOf 36 = .ok (.imul, 1) := by decide +kernel
theorem dX1_answerOf_37 : decode cX1_answerOf 37 = .ok (.ishr, 1) := by decide +kernel
theorem dX1_answerOf_38 : decode cX1_answerOf 38 = .ok (.bipush 7, 2) := by decide +kernel
theorem dX1_answerOf_40 : decode cX1_answerOf 40 = .ok (.iand, 1) := by decide +kernel
theorem dX1_answerOf_41 : decode cX1_answerOf 41 = .ok (.ireturn, 1) := by decide +kernel
theorem dX1_answer_0 : decode cX1_answer 0 = .ok (.iconst 0, 1) := by decide +kernel
theorem dX1_answer_1 : decode cX1_answer 1 = .ok (.istore_n 2, 1) := by decide +kernel
theorem dX1_answer_2 : decode cX1_answer 2 = .ok (.iconst 0, 1) := by decide +kernel
theorem dX1_answer_3 : decode cX1_answer 3 = .ok (.istore_n 3, 1) := by decide +kernel
theorem dX1_answer_4 : decode cX1_answer 4 = .ok (.iload_n 3, 1) := by decide +kernel
theorem dX1_answer_5 : decode cX1_answer 5 = .ok (.aload_n 0, 1) := by decide +kernel
theorem dX1_answer_6 : decode cX1_answer 6 = .ok (.getfield 26, 3) := by decide +kernel
theorem dX1_answer_9 : decode cX1_answer 9 = .ok (.getfield 40, 3) := by decide +kernel
theorem dX1_answer_12 : decode cX1_answer 12 = .ok (.if_icmp .ge 22, 3) := by decide +kernel
theorem dX1_answer_15 : decode cX1_answer 15 = .ok (.iload_n 2, 1) := by decide +kernel
theorem dX1_answer_16 : decode cX1_answer 16 = .ok (.aload_n 0, 1) := by decide +kernel
theorem dX1_answer_17 : decode cX1_answer 17 = .ok (.iload_n 3, 1) := by decide +kernel
theorem dX1_answer_18 : decode cX1_answer 18 = .ok (.iload_n 1, 1) := by decide +kernel
theorem dX1_answer_19 : decode cX1_answer 19 = .ok (.invokevirtual 107, 3) := by decide +kernel
theorem dX1_answer_22 : decode cX1_answer 22 = .ok (.iconst 3, 1) := by decide +kernel
theorem dX1_answer_23 : decode cX1_answer 23 = .ok (.iload_n 3, 1) := by decide +kernel
theorem dX1_answer_24 : decode cX1_answer 24 = .ok (.imul, 1) := by decide +kernel
theorem dX1_answer_25 : decode cX1_answer 25 = .ok (.ishl, 1) := by decide +kernel
theorem dX1_answer_26 : decode cX1_answer 26 = .ok (.ior, 1) := by decide +kernel
theorem dX1_answer_27 : decode cX1_answer 27 = .ok (.istore_n 2, 1) := by decide +kernel
theorem dX1_answer_28 : decode cX1_answer 28 = .ok (.iinc 3 1, 3) := by decide +kernel
theorem dX1_answer_31 : decode cX1_answer 31 = .ok (.goto (-27), 3) := by decide +kernel
theorem dX1_answer_34 : decode cX1_answer 34 = .ok (.iload_n 2, 1) := by decide +kernel
theorem dX1_answer_35 : decode cX1_answer 35 = .ok (.ireturn, 1) := by decide +kernel
theorem dX1_firstOtherwise_0 : decode cX1_firstOtherwise 0 = .ok (.iconst 0, 1) := by decide +kernel
theorem dX1_firstOtherwise_1 : decode cX1_firstOtherwise 1 = .ok (.istore_n 2, 1) := by decide +kernel
theorem dX1_firstOtherwise_2 : decode cX1_firstOtherwise 2 = .ok (.iload_n 2, 1) := by decide +kernel
theorem dX1_firstOtherwise_3 : decode cX1_firstOtherwise 3 = .ok (.aload_n 0, 1) := by decide +kernel
theorem dX1_firstOtherwise_4 : decode cX1_firstOtherwise 4 = .ok (.getfield 26, 3) := by decide +kernel
theorem dX1_firstOtherwise_7 : decode cX1_firstOtherwise 7 = .ok (.getfield 40, 3) := by decide +kernel
theorem dX1_firstOtherwise_10 : decode cX1_firstOtherwise 10 = .ok (.if_icmp .ge 59, 3) := by decide +kernel
theorem dX1_firstOtherwise_13 : decode cX1_firstOtherwise 13 = .ok (.aload_n 0, 1) := by decide +kernel
theorem dX1_firstOtherwise_14 : decode cX1_firstOtherwise 14 = .ok (.iload_n 2, 1) := by decide +kernel
theorem dX1_firstOtherwise_15 : decode cX1_firstOtherwise 15 = .ok (.iload_n 1, 1) := by decide +kernel
theorem dX1_firstOtherwise_16 : decode cX1_firstOtherwise 16 = .ok (.invokevirtual 107, 3) := by decide +kernel
theorem dX1_firstOtherwise_19 : decode cX1_firstOtherwise 19 = .ok (.iload_n 2, 1) := by decide +kernel
theorem dX1_firstOtherwise_20 : decode cX1_firstOtherwise 20 = .ok (.iload_n 1, 1) := by decide +kernel
theorem dX1_firstOtherwise_21 : decode cX1_firstOtherwise 21 = .ok (.invokestatic 70, 3) := by decide +kernel
theorem dX1_firstOtherwise_24 : decode cX1_firstOtherwise 24 = .ok (.ixor, 1) := by decide +kernel
theorem dX1_firstOtherwise_25 : decode cX1_firstOtherwise 25 = .ok (.istore_n 3, 1) := by decide +kernel
theorem dX1_firstOtherwise_26 : decode cX1_firstOtherwise 26 = .ok (.iconst 0, 1) := by decide +kernel
theorem dX1_firstOtherwise_27 : decode cX1_firstOtherwise 27 = .ok (.istore 4, 2) := by decide +kernel
theorem dX1_firstOtherwise_29 : decode cX1_firstOtherwise 29 = .ok (.iload 4, 2) := by decide +kernel
theorem dX1_firstOtherwise_31 : decode cX1_firstOtherwise 31 = .ok (.iconst 3, 1) := by decide +kernel
theorem dX1_firstOtherwise_32 : decode cX1_firstOtherwise 32 = .ok (.if_icmp .ge 31, 3) := by decide +kernel
theorem dX1_firstOtherwise_35 : decode cX1_firstOtherwise 35 = .ok (.iload_n 3, 1) := by decide +kernel
theorem dX1_firstOtherwise_36 : decode cX1_firstOtherwise 36 = .ok (.ifCond .eq 27, 3) := by decide +kernel
theorem dX1_firstOtherwise_39 : decode cX1_firstOtherwise 39 = .ok (.iload_n 3, 1) := by decide +kernel
theorem dX1_firstOtherwise_40 : decode cX1_firstOtherwise 40 = .ok (.iload 4, 2) := by decide +kernel
theorem dX1_firstOtherwise_42 : decode cX1_firstOtherwise 42 = .ok (.invokestatic 82, 3) := by decide +kernel
theorem dX1_firstOtherwise_45 : decode cX1_firstOtherwise 45 = .ok (.iconst 1, 1) := by decide +kernel
theorem dX1_firstOtherwise_46 : decode cX1_firstOtherwise 46 = .ok (.if_icmp .ne 11, 3) := by decide +kernel
theorem dX1_firstOtherwise_49 : decode cX1_firstOtherwise 49 = .ok (.bipush 10, 2) := by decide +kernel
theorem dX1_firstOtherwise_51 : decode cX1_firstOtherwise 51 = .ok (.iload_n 2, 1) := by decide +kernel
theorem dX1_firstOtherwise_52 : decode cX1_firstOtherwise 52 = .ok (.imul, 1) := by decide +kernel
theorem dX1_firstOtherwise_53 : decode cX1_firstOtherwise 53 = .ok (.iload 4, 2) := by decide +kernel
theorem dX1_firstOtherwise_55 : decode cX1_firstOtherwise 55 = .ok (.iadd, 1) := by decide +kernel
theorem dX1_firstOtherwise_56 : decode cX1_firstOtherwise 56 = .ok (.ireturn, 1) := by decide +kernel
theorem dX1_firstOtherwise_57 : decode cX1_firstOtherwise 57 = .ok (.iinc 4 1, 3) := by decide +kernel
theorem dX1_firstOtherwise_60 : decode cX1_firstOtherwise 60 = .ok (.goto (-31), 3) := by decide +kernel
theorem dX1_firstOtherwise_63 : decode cX1_firstOtherwise 63 = .ok (.iinc 2 1, 3) := by decide +kernel
theorem dX1_firstOtherwise_66 : decode cX1_firstOtherwise 66 = .ok (.goto (-64), 3) := by decide +kernel
theorem dX1_firstOtherwise_69 : decode cX1_firstOtherwise 69 = .ok (.bipush (-5), 2) := by decide +kernel
theorem dX1_firstOtherwise_71 : decode cX1_firstOtherwise 71 = .ok (.ireturn, 1) := by decide +kernel
theorem dX1_stands_0 : decode cX1_stands 0 = .ok (.aload_n 0, 1) := by decide +kernel
theorem dX1_stands_1 : decode cX1_stands 1 = .ok (.iload_n 1, 1) := by decide +kernel
theorem dX1_stands_2 : decode cX1_stands 2 = .ok (.invokevirtual 110, 3) := by decide +kernel
theorem dX1_stands_5 : decode cX1_stands 5 = .ok (.bipush (-5), 2) := by decide +kernel
theorem dX1_stands_7 : decode cX1_stands 7 = .ok (.if_icmp .ne 7, 3) := by decide +kernel
theorem dX1_stands_10 : decode cX1_stands 10 = .ok (.iconst 1, 1) := by decide +kernel
theorem dX1_stands_11 : decode cX1_stands 11 = .ok (.goto 4, 3) := by decide +kernel
theorem dX1_stands_14 : decode cX1_stands 14 = .ok (.iconst 0, 1) := by decide +kernel
theorem dX1_stands_15 : decode cX1_stands 15 = .ok (.ireturn, 1) := by decide +kernel
theorem dX1_gainOfAll_0 : decode cX1_gainOfAll 0 = .ok (.iconst 0, 1) := by decide +kernel
theorem dX1_gainOfAll_1 : decode cX1_gainOfAll 1 = .ok (.istore_n 2, 1) := by decide +kernel
theorem dX1_gainOfAll_2 : decode cX1_gainOfAll 2 = .ok (.iconst 0, 1) := by decide +kernel
theorem dX1_gainOfAll_3 : decode cX1_gainOfAll 3 = .ok (.istore_n 3, 1) := by decide +kernel
theorem dX1_gainOfAll_4 : decode cX1_gainOfAll 4 = .ok (.iload_n 3, 1) := by decide +kernel
theorem dX1_gainOfAll_5 : decode cX1_gainOfAll 5 = .ok (.aload_n 0, 1) := by decide +kernel
theorem dX1_gainOfAll_6 : decode cX1_gainOfAll 6 = .ok (.getfield 26, 3) := by decide +kernel
theorem dX1_gainOfAll_9 : decode cX1_gainOfAll 9 = .ok (.getfield 40, 3) := by decide +kernel
theorem dX1_gainOfAll_12 : decode cX1_gainOfAll 12 = .ok (.if_icmp .ge 23, 3) := by decide +kernel
theorem dX1_gainOfAll_15 : decode cX1_gainOfAll 15 = .ok (.iload_n 2, 1) := by decide +kernel
theorem dX1_gainOfAll_16 : decode cX1_gainOfAll 16 = .ok (.aload_n 0, 1) := by decide +kernel
theorem dX1_gainOfAll_17 : decode cX1_gainOfAll 17 = .ok (.iload_n 3, 1) := by decide +kernel
theorem dX1_gainOfAll_18 : decode cX1_gainOfAll 18 = .ok (.aload_n 0, 1) := by decide +kernel
theorem dX1_gainOfAll_19 : decode cX1_gainOfAll 19 = .ok (.iload_n 3, 1) := by decide +kernel
theorem dX1_gainOfAll_20 : decode cX1_gainOfAll 20 = .ok (.iload_n 1, 1) := by decide +kernel
theorem dX1_gainOfAll_21 : decode cX1_gainOfAll 21 = .ok (.invokevirtual 53, 3) := by decide +kernel
theorem dX1_gainOfAll_24 : decode cX1_gainOfAll 24 = .ok (.invokevirtual 97, 3) := by decide +kernel
theorem dX1_gainOfAll_27 : decode cX1_gainOfAll 27 = .ok (.iadd, 1) := by decide +kernel
theorem dX1_gainOfAll_28 : decode cX1_gainOfAll 28 = .ok (.istore_n 2, 1) := by decide +kernel
theorem dX1_gainOfAll_29 : decode cX1_gainOfAll 29 = .ok (.iinc 3 1, 3) := by decide +kernel
theorem dX1_gainOfAll_32 : decode cX1_gainOfAll 32 = .ok (.goto (-28), 3) := by decide +kernel
theorem dX1_gainOfAll_35 : decode cX1_gainOfAll 35 = .ok (.iload_n 2, 1) := by decide +kernel
theorem dX1_gainOfAll_36 : decode cX1_gainOfAll 36 = .ok (.ireturn, 1) := by decide +kernel
theorem dX1_search_0 : decode cX1_search 0 = .ok (.aload_n 0, 1) := by decide +kernel
theorem dX1_search_1 : decode cX1_search 1 = .ok (.getfield 34, 3) := by decide +kernel
theorem dX1_search_4 : decode cX1_search 4 = .ok (.ifCond .eq 4, 3) := by decide +kernel
theorem dX1_search_7 : decode cX1_search 7 = .ok (.return_, 1) := by decide +kernel
theorem dX1_search_8 : decode cX1_search 8 = .ok (.aload_n 0, 1) := by decide +kernel
theorem dX1_search_9 : decode cX1_search 9 = .ok (.iconst 0, 1) := by decide +kernel
theorem dX1_search_10 : decode cX1_search 10 = .ok (.putfield 113, 3) := by decide +kernel
theorem dX1_search_13 : decode cX1_search 13 = .ok (.aload_n 0, 1) := by decide +kernel
theorem dX1_search_14 : decode cX1_search 14 = .ok (.bipush (-5), 2) := by decide +kernel
theorem dX1_search_16 : decode cX1_search 16 = .ok (.putfield 116, 3) := by decide +kernel
theorem dX1_search_19 : decode cX1_search 19 = .ok (.aload_n 0, 1) := by decide +kernel
theorem dX1_search_20 : decode cX1_search 20 = .ok (.bipush (-5), 2) := by decide +kernel
theorem dX1_search_22 : decode cX1_search 22 = .ok (.putfield 119, 3) := by decide +kernel
theorem dX1_search_25 : decode cX1_search 25 = .ok (.aload_n 0, 1) := by decide +kernel
theorem dX1_search_26 : decode cX1_search 26 = .ok (.bipush (-5), 2) := by decide +kernel
theorem dX1_search_28 : decode cX1_search 28 = .ok (.putfield 122, 3) := by decide +kernel
theorem dX1_search_31 : decode cX1_search 31 = .ok (.aload_n 0, 1) := by decide +kernel
theorem dX1_search_32 : decode cX1_search 32 = .ok (.getfield 26, 3) := by decide +kernel
theorem dX1_search_35 : decode cX1_search 35 = .ok (.invokevirtual 125, 3) := by decide +kernel
theorem dX1_search_38 : decode cX1_search 38 = .ok (.istore_n 1, 1) := by decide +kernel
theorem dX1_search_39 : decode cX1_search 39 = .ok (.iconst 0, 1) := by decide +kernel
theorem dX1_search_40 : decode cX1_search 40 = .ok (.istore_n 2, 1) := by decide +kernel
theorem dX1_search_41 : decode cX1_search 41 = .ok (.iload_n 2, 1) := by decide +kernel
theorem dX1_search_42 : decode cX1_search 42 = .ok (.iload_n 1, 1) := by decide +kernel
theorem dX1_search_43 : decode cX1_search 43 = .ok (.if_icmp .ge 22, 3) := by decide +kernel
theorem dX1_search_46 : decode cX1_search 46 = .ok (.aload_n 0, 1) := by decide +kernel
theorem dX1_search_47 : decode cX1_search 47 = .ok (.iload_n 2, 1) := by decide +kernel
theorem dX1_search_48 : decode cX1_search 48 = .ok (.invokevirtual 129, 3) := by decide +kernel
theorem dX1_search_51 : decode cX1_search 51 = .ok (.ifCond .eq 8, 3) := by decide +kernel
theorem dX1_search_54 : decode cX1_search 54 = .ok (.aload_n 0, 1) := by decide +kernel
theorem dX1_search_55 : decode cX1_search 55 = .ok (.iload_n 2, 1) := by decide +kernel
theorem dX1_search_56 : decode cX1_search 56 = .ok (.invokevirtual 132, 3) := by decide +kernel
theorem dX1_search_59 : decode cX1_search 59 = .ok (.iinc 2 1, 3) := by decide +kernel
theorem dX1_search_62 : decode cX1_search 62 = .ok (.goto (-21), 3) := by decide +kernel
theorem dX1_search_65 : decode cX1_search 65 = .ok (.aload_n 0, 1) := by decide +kernel
theorem dX1_search_66 : decode cX1_search 66 = .ok (.iconst 1, 1) := by decide +kernel
theorem dX1_search_67 : decode cX1_search 67 = .ok (.putfield 34, 3) := by decide +kernel
theorem dX1_search_70 : decode cX1_search 70 = .ok (.return_, 1) := by decide +kernel
theorem dX1_addStanding_0 : decode cX1_addStanding 0 = .ok (.aload_n 0, 1) := by decide +kernel
theorem dX1_addStanding_1 : decode cX1_addStanding 1 = .ok (.iload_n 1, 1) := by decide +kernel
theorem dX1_addStanding_2 : decode cX1_addStanding 2 = .ok (.invokevirtual 136, 3) := by decide +kernel
theorem dX1_addStanding_5 : decode cX1_addStanding 5 = .ok (.istore_n 2, 1) := by decide +kernel
theorem dX1_addStanding_6 : decode cX1_addStanding 6 = .ok (.aload_n 0, 1) := by decide +kernel
theorem dX1_addStanding_7 : decode cX1_addStanding 7 = .ok (.getfield 113, 3) := by decide +kernel
theorem dX1_addStanding_10 : decode cX1_addStanding 10 = .ok (.ifCond .eq 11, 3) := by decide +kernel
theorem dX1_addStanding_13 : decode cX1_addStanding 13 = .ok (.iload_n 2, 1) := by decide +kernel
theorem dX1_addStanding_14 : decode cX1_addStanding 14 = .ok (.aload_n 0, 1) := by decide +kernel
theorem dX1_addStanding_15 : decode cX1_addStanding 15 = .ok (.getfield 139, 3) := by decide +kernel
theorem dX1_addStanding_18 : decode cX1_addStanding 18 = .ok (.if_icmp .le 13, 3) := by decide +kernel
theorem dX1_addStanding_21 : decode cX1_addStanding 21 = .ok (.aload_n 0, 1) := by decide +kernel
theorem dX1_addStanding_22 : decode cX1_addStanding 22 = .ok (.iload_n 1, 1) := by decide +kernel
theorem dX1_addStanding_23 : decode cX1_addStanding 23 = .ok (.putfield 122, 3) := by decide +kernel
theorem dX1_addStanding_26 : decode cX1_addStanding 26 = .ok (.aload_n 0, 1) := by decide +kernel
theorem dX1_addStanding_27 : decode cX1_addStanding 27 = .ok (.iload_n 2, 1) := by decide +kernel
theorem dX1_addStanding_28 : decode cX1_addStanding 28 = .ok (.putfield 139, 3) := by decide +kernel
theorem dX1_addStanding_31 : decode cX1_addStanding 31 = .ok (.aload_n 0, 1) := by decide +kernel
theorem dX1_addStanding_32 : decode cX1_addStanding 32 = .ok (.getfield 113, 3) := by decide +kernel
theorem dX1_addStanding_35 : decode cX1_addStanding 35 = .ok (.ifCond .ne 8, 3) := by decide +kernel
theorem dX1_addStanding_38 : decode cX1_addStanding 38 = .ok (.aload_n 0, 1) := by decide +kernel
theorem dX1_addStanding_39 : decode cX1_addStanding 39 = .ok (.iload_n 1, 1) := by decide +kernel
theorem dX1_addStanding_40 : decode cX1_addStanding 40 = .ok (.putfield 116, 3) := by decide +kernel
theorem dX1_addStanding_43 : decode cX1_addStanding 43 = .ok (.aload_n 0, 1) := by decide +kernel
theorem dX1_addStanding_44 : decode cX1_addStanding 44 = .ok (.iload_n 1, 1) := by decide +kernel
theorem dX1_addStanding_45 : decode cX1_addStanding 45 = .ok (.putfield 119, 3) := by decide +kernel
theorem dX1_addStanding_48 : decode cX1_addStanding 48 = .ok (.aload_n 0, 1) := by decide +kernel
theorem dX1_addStanding_49 : decode cX1_addStanding 49 = .ok (.dup, 1) := by decide +kernel
theorem dX1_addStanding_50 : decode cX1_addStanding 50 = .ok (.getfield 113, 3) := by decide +kernel
theorem dX1_addStanding_53 : decode cX1_addStanding 53 = .ok (.iconst 1, 1) := by decide +kernel
theorem dX1_addStanding_54 : decode cX1_addStanding 54 = .ok (.iadd, 1) := by decide +kernel
theorem dX1_addStanding_55 : decode cX1_addStanding 55 = .ok (.putfield 113, 3) := by decide +kernel
theorem dX1_addStanding_58 : decode cX1_addStanding 58 = .ok (.return_, 1) := by decide +kernel
theorem dX1_comingDay_0 : decode cX1_comingDay 0 = .ok (.aload_n 0, 1) := by decide +kernel
theorem dX1_comingDay_1 : decode cX1_comingDay 1 = .ok (.getfield 113, 3) := by decide +kernel
theorem dX1_comingDay_4 : decode cX1_comingDay 4 = .ok (.ifCond .le 10, 3) := by decide +kernel
theorem dX1_comingDay_7 : decode cX1_comingDay 7 = .ok (.aload_n 0, 1) := by decide +kernel
theorem dX1_comingDay_8 : decode cX1_comingDay 8 = .ok (.getfield 122, 3) := by decide +kernel
theorem dX1_comingDay_11 : decode cX1_comingDay 11 = .ok (.goto 14, 3) := by decide +kernel
theorem dX1_comingDay_14 : decode cX1_comingDay 14 = .ok (.aload_n 0, 1) := by decide +kernel
theorem dX1_comingDay_15 : decode cX1_comingDay 15 = .ok (.aload_n 0, 1) := by decide +kernel
theorem dX1_comingDay_16 : decode cX1_comingDay 16 = .ok (.getfield 26, 3) := by decide +kernel
theorem dX1_comingDay_19 : decode cX1_comingDay 19 = .ok (.getfield 50, 3) := by decide +kernel
theorem dX1_comingDay_22 : decode cX1_comingDay 22 = .ok (.invokevirtual 142, 3) := by decide +kernel
theorem dX1_comingDay_25 : decode cX1_comingDay 25 = .ok (.ireturn, 1) := by decide +kernel
theorem dX1_stoodWith_0 : decode cX1_stoodWith 0 = .ok (.iconst 0, 1) := by decide +kernel
theorem dX1_stoodWith_1 : decode cX1_stoodWith 1 = .ok (.istore_n 2, 1) := by decide +kernel
theorem dX1_stoodWith_2 : decode cX1_stoodWith 2 = .ok (.aload_n 0, 1) := by decide +kernel
theorem dX1_stoodWith_3 : decode cX1_stoodWith 3 = .ok (.getfield 26, 3) := by decide +kernel
theorem dX1_stoodWith_6 : decode cX1_stoodWith 6 = .ok (.invokevirtual 125, 3) := by decide +kernel
theorem dX1_stoodWith_9 : decode cX1_stoodWith 9 = .ok (.istore_n 3, 1) := by decide +kernel
theorem dX1_stoodWith_10 : decode cX1_stoodWith 10 = .ok (.iconst 0, 1) := by decide +kernel
theorem dX1_stoodWith_11 : decode cX1_stoodWith 11 = .ok (.istore 4, 2) := by decide +kernel
theorem dX1_stoodWith_13 : decode cX1_stoodWith 13 = .ok (.iload 4, 2) := by decide +kernel
theorem dX1_stoodWith_15 : decode cX1_stoodWith 15 = .ok (.iload_n 3, 1) := by decide +kernel
theorem dX1_stoodWith_16 : decode cX1_stoodWith 16 = .ok (.if_icmp .ge 31, 3) := by decide +kernel
theorem dX1_stoodWith_19 : decode cX1_stoodWith 19 = .ok (.iload 4, 2) := by decide +kernel
theorem dX1_stoodWith_21 : decode cX1_stoodWith 21 = .ok (.iload_n 1, 1) := by decide +kernel
theorem dX1_stoodWith_22 : decode cX1_stoodWith 22 = .ok (.invokestatic 82, 3) := by decide +kernel
theorem dX1_stoodWith_25 : decode cX1_stoodWith 25 = .ok (.iconst 1, 1) := by decide +kernel
theorem dX1_stoodWith_26 : decode cX1_stoodWith 26 = .ok (.if_icmp .ne 15, 3) := by decide +kernel
theorem dX1_stoodWith_29 : decode cX1_stoodWith 29 = .ok (.aload_n 0, 1) := by decide +kernel
theorem dX1_stoodWith_30 : decode cX1_stoodWith 30 = .ok (.iload 4, 2) := by decide +kernel
theorem dX1_stoodWith_32 : decode cX1_stoodWith 32 = .ok (.invokevirtual 129, 3) := by decide +kernel
theorem dX1_stoodWith_35 : decode cX1_stoodWith 35 = .ok (.ifCond .eq 6, 3) := by decide +kernel
theorem dX1_stoodWith_38 : decode cX1_stoodWith 38 = .ok (.iinc 2 1, 3) := by decide +kernel
theorem dX1_stoodWith_41 : decode cX1_stoodWith 41 = .ok (.iinc 4 1, 3) := by decide +kernel
theorem dX1_stoodWith_44 : decode cX1_stoodWith 44 = .ok (.goto (-31), 3) := by decide +kernel
theorem dX1_stoodWith_47 : decode cX1_stoodWith 47 = .ok (.iload_n 2, 1) := by decide +kernel
theorem dX1_stoodWith_48 : decode cX1_stoodWith 48 = .ok (.ireturn, 1) := by decide +kernel
theorem dX2_init_0 : decode cX2_init 0 = .ok (.aload_n 0, 1) := by decide +kernel
theorem dX2_init_1 : decode cX2_init 1 = .ok (.invokespecial 3, 3) := by decide +kernel
theorem dX2_init_4 : decode cX2_init 4 = .ok (.aload_n 0, 1) := by decide +kernel
theorem dX2_init_5 : decode cX2_init 5 = .ok (.iconst 4, 1) := by decide +kernel
theorem dX2_init_6 : decode cX2_init 6 = .ok (.newarray .int, 2) := by decide +kernel
theorem dX2_init_8 : decode cX2_init 8 = .ok (.putfield 9, 3) := by decide +kernel
theorem dX2_init_11 : decode cX2_init 11 = .ok (.aload_n 0, 1) := by decide +kernel
theorem dX2_init_12 : decode cX2_init 12 = .ok (.iconst 4, 1) := by decide +kernel
theorem dX2_init_13 : decode cX2_init 13 = .ok (.newarray .int, 2) := by decide +kernel
theorem dX2_init_15 : decode cX2_init 15 = .ok (.putfield 15, 3) := by decide +kernel
theorem dX2_init_18 : decode cX2_init 18 = .ok (.aload_n 0, 1) := by decide +kernel
theorem dX2_init_19 : decode cX2_init 19 = .ok (.iconst 4, 1) := by decide +kernel
theorem dX2_init_20 : decode cX2_init 20 = .ok (.newarray .int, 2) := by decide +kernel
theorem dX2_init_22 : decode cX2_init 22 = .ok (.putfield 18, 3) := by decide +kernel
theorem dX2_init_25 : decode cX2_init 25 = .ok (.return_, 1) := by decide +kernel
theorem dX2_has_0 : decode cX2_has 0 = .ok (.iload_n 1, 1) := by decide +kernel
theorem dX2_has_1 : decode cX2_has 1 = .ok (.ifCond .lt 20, 3) := by decide +kernel
theorem dX2_has_4 : decode cX2_has 4 = .ok (.iload_n 1, 1) := by decide +kernel
theorem dX2_has_5 : decode cX2_has 5 = .ok (.aload_n 0, 1) := by decide +kernel
theorem dX2_has_6 : decode cX2_has 6 = .ok (.getfield 21, 3) := by decide +kernel
theorem dX2_has_9 : decode cX2_has 9 = .ok (.if_icmp .ge 12, 3) := by decide +kernel
theorem dX2_has_12 : decode cX2_has 12 = .ok (.iload_n 1, 1) := by decide +kernel
theorem dX2_has_13 : decode cX2_has 13 = .ok (.iconst 4, 1) := by decide +kernel
theorem dX2_has_14 : decode cX2_has 14 = .ok (.if_icmp .ge 7, 3) := by decide +kernel
theorem dX2_has_17 : decode cX2_has 17 = .ok (.iconst 1, 1) := by decide +kernel
theorem dX2_has_18 : decode cX2_has 18 = .ok (.goto 4, 3) := by decide +kernel
theorem dX2_has_21 : decode cX2_has 21 = .ok (.iconst 0, 1) := by decide +kernel
theorem dX2_has_22 : decode cX2_has 22 = .ok (.ireturn, 1) := by decide +kernel
theorem dX2_allDays_0 : decode cX2_allDays 0 = .ok (.iconst 1, 1) := by decide +kernel
theorem dX2_allDays_1 : decode cX2_allDays 1 = .ok (.iconst 3, 1) := by decide +kernel
theorem dX2_allDays_2 : decode cX2_allDays 2 = .ok (.aload_n 0, 1) := by decide +kernel
theorem dX2_allDays_3 : decode cX2_allDays 3 = .ok (.getfield 21, 3) := by decide +kernel
theorem dX2_allDays_6 : decode cX2_allDays 6 = .ok (.imul, 1) := by decide +kernel
theorem dX2_allDays_7 : decode cX2_allDays 7 = .ok (.ishl, 1) := by decide +kernel
theorem dX2_allDays_8 : decode cX2_allDays 8 = .ok (.ireturn, 1) := by decide +kernel
theorem dX2_isDay_0 : decode cX2_isDay 0 = .ok (.iload_n 1, 1) := by decide +kernel
theorem dX2_isDay_1 : decode cX2_isDay 1 = .ok (.ifCond .lt 15, 3) := by decide +kernel
theorem dX2_isDay_4 : decode cX2_isDay 4 = .ok (.iload_n 1, 1) := by decide +kernel
theorem dX2_isDay_5 : decode cX2_isDay 5 = .ok (.aload_n 0, 1) := by decide +kernel
theorem dX2_isDay_6 : decode cX2_isDay 6 = .ok (.invokevirtual 25, 3) := by decide +kernel
theorem dX2_isDay_9 : decode cX2_isDay 9 = .ok (.if_icmp .ge 7, 3) := by decide +kernel
theorem dX2_isDay_12 : decode cX2_isDay 12 = .ok (.iconst 1, 1) := by decide +kernel
theorem dX2_isDay_13 : decode cX2_isDay 13 = .ok (.goto 4, 3) := by decide +kernel
theorem dX2_isDay_16 : decode cX2_isDay 16 = .ok (.iconst 0, 1) := by decide +kernel
theorem dX2_isDay_17 : decode cX2_isDay 17 = .ok (.ireturn, 1) := by decide +kernel
theorem dX2_join_0 : decode cX2_join 0 = .ok (.aload_n 0, 1) := by decide +kernel
theorem dX2_join_1 : decode cX2_join 1 = .ok (.getfield 21, 3) := by decide +kernel
theorem dX2_join_4 : decode cX2_join 4 = .ok (.ifCond .lt 11, 3) := by decide +kernel
theorem dX2_join_7 : decode cX2_join 7 = .ok (.aload_n 0, 1) := by decide +kernel
theorem dX2_join_8 : decode cX2_join 8 = .ok (.getfield 21, 3) := by decide +kernel
theorem dX2_join_11 : decode cX2_join 11 = .ok (.iconst 4, 1) := by decide +kernel
theorem dX2_join_12 : decode cX2_join 12 = .ok (.if_icmp .lt 6, 3) := by decide +kernel
theorem dX2_join_15 : decode cX2_join 15 = .ok (.bipush (-4), 2) := by decide +kernel
theorem dX2_join_17 : decode cX2_join 17 = .ok (.ireturn, 1) := by decide +kernel
theorem dX2_join_18 : decode cX2_join 18 = .ok (.aload_n 0, 1) := by decide +kernel
theorem dX2_join_19 : decode cX2_join 19 = .ok (.getfield 9, 3) := by decide +kernel
theorem dX2_join_22 : decode cX2_join 22 = .ok (.aload_n 0, 1) := by decide +kernel
theorem dX2_join_23 : decode cX2_join 23 = .ok (.getfield 21, 3) := by decide +kernel
theorem dX2_join_26 : decode cX2_join 26 = .ok (.iload_n 1, 1) := by decide +kernel
theorem dX2_join_27 : decode cX2_join 27 = .ok (.iastore, 1) := by decide +kernel
theorem dX2_join_28 : decode cX2_join 28 = .ok (.aload_n 0, 1) := by decide +kernel
theorem dX2_join_29 : decode cX2_join 29 = .ok (.getfield 15, 3) := by decide +kernel
theorem dX2_join_32 : decode cX2_join 32 = .ok (.aload_n 0, 1) := by decide +kernel
theorem dX2_join_33 : decode cX2_join 33 = .ok (.getfield 21, 3) := by decide +kernel
theorem dX2_join_36 : decode cX2_join 36 = .ok (.iload_n 2, 1) := by decide +kernel
theorem dX2_join_37 : decode cX2_join 37 = .ok (.iastore, 1) := by decide +kernel
theorem dX2_join_38 : decode cX2_join 38 = .ok (.aload_n 0, 1) := by decide +kernel
theorem dX2_join_39 : decode cX2_join 39 = .ok (.getfield 18, 3) := by decide +kernel
theorem dX2_join_42 : decode cX2_join 42 = .ok (.aload_n 0, 1) := by decide +kernel
theorem dX2_join_43 : decode cX2_join 43 = .ok (.getfield 21, 3) := by decide +kernel
theorem dX2_join_46 : decode cX2_join 46 = .ok (.iconst 0, 1) := by decide +kernel
theorem dX2_join_47 : decode cX2_join 47 = .ok (.iastore, 1) := by decide +kernel
theorem dX2_join_48 : decode cX2_join 48 = .ok (.aload_n 0, 1) := by decide +kernel
theorem dX2_join_49 : decode cX2_join 49 = .ok (.aload_n 0, 1) := by decide +kernel
theorem dX2_join_50 : decode cX2_join 50 = .ok (.getfield 21, 3) := by decide +kernel
theorem dX2_join_53 : decode cX2_join 53 = .ok (.iconst 0, 1) := by decide +kernel
theorem dX2_join_54 : decode cX2_join 54 = .ok (.invokevirtual 29, 3) := by decide +kernel
theorem dX2_join_57 : decode cX2_join 57 = .ok (.aload_n 0, 1) := by decide +kernel
theorem dX2_join_58 : decode cX2_join 58 = .ok (.dup, 1) := by decide +kernel
theorem dX2_join_59 : decode cX2_join 59 = .ok (.getfield 21, 3) := by decide +kernel
theorem dX2_join_62 : decode cX2_join 62 = .ok (.iconst 1, 1) := by decide +kernel
theorem dX2_join_63 : decode cX2_join 63 = .ok (.iadd, 1) := by decide +kernel
theorem dX2_join_64 : decode cX2_join 64 = .ok (.putfield 21, 3) := by decide +kernel
theorem dX2_join_67 : decode cX2_join 67 = .ok (.aload_n 0, 1) := by decide +kernel
theorem dX2_join_68 : decode cX2_join 68 = .ok (.getfield 21, 3) := by decide +kernel
theorem dX2_join_71 : decode cX2_join 71 = .ok (.iconst 1, 1) := by decide +kernel
theorem dX2_join_72 : decode cX2_join 72 = .ok (.isub, 1) := by decide +kernel
theorem dX2_join_73 : decode cX2_join 73 = .ok (.ireturn, 1) := by decide +kernel
theorem dX2_noteOf_0 : decode cX2_noteOf 0 = .ok (.aload_n 0, 1) := by decide +kernel
theorem dX2_noteOf_1 : decode cX2_noteOf 1 = .ok (.getfield 33, 3) := by decide +kernel
theorem dX2_noteOf_4 : decode cX2_noteOf 4 = .ok (.iload_n 1, 1) := by decide +kernel
theorem dX2_noteOf_5 : decode cX2_noteOf 5 = .ok (.ishr, 1) := by decide +kernel
theorem dX2_noteOf_6 : decode cX2_noteOf 6 = .ok (.iconst 1, 1) := by decide +kernel
theorem dX2_noteOf_7 : decode cX2_noteOf 7 = .ok (.iand, 1) := by decide +kernel
theorem dX2_noteOf_8 : decode cX2_noteOf 8 = .ok (.ireturn, 1) := by decide +kernel
theorem dX2_putNote_0 : decode cX2_putNote 0 = .ok (.aload_n 0, 1) := by decide +kernel
theorem dX2_putNote_1 : decode cX2_putNote 1 = .ok (.iload_n 2, 1) := by decide +kernel
theorem dX2_putNote_2 : decode cX2_putNote 2 = .ok (.ifCond .eq 14, 3) := by decide +kernel
theorem dX2_putNote_5 : decode cX2_putNote 5 = .ok (.aload_n 0, 1) := by decide +kernel
theorem dX2_putNote_6 : decode cX2_putNote 6 = .ok (.getfield 33, 3) := by decide +kernel
theorem dX2_putNote_9 : decode cX2_putNote 9 = .ok (.iconst 1, 1) := by decide +kernel
theorem dX2_putNote_10 : decode cX2_putNote 10 = .ok (.iload_n 1, 1) := by decide +kernel
theorem dX2_putNote_11 : decode cX2_putNote 11 = .ok (.ishl, 1) := by decide +kernel
theorem dX2_putNote_12 : decode cX2_putNote 12 = .ok (.ior, 1) := by decide +kernel
theorem dX2_putNote_13 : decode cX2_putNote 13 = .ok (.goto 13, 3) := by decide +kernel
theorem dX2_putNote_16 : decode cX2_putNote 16 = .ok (.aload_n 0, 1) := by decide +kernel
theorem dX2_putNote_17 : decode cX2_putNote 17 = .ok (.getfield 33, 3) := by decide +kernel
theorem dX2_putNote_20 : decode cX2_putNote 20 = .ok (.iconst 1, 1) := by decide +kernel
theorem dX2_putNote_21 : decode cX2_putNote 21 = .ok (.iload_n 1, 1) := by decide +kernel
theorem dX2_putNote_22 : decode cX2_putNote 22 = .ok (.ishl, 1) := by decide +kernel
theorem dX2_putNote_23 : decode cX2_putNote 23 = .ok (.iconst (-1), 1) := by decide +kernel
theorem dX2_putNote_24 : decode cX2_putNote 24 = .ok (.ixor, 1) := by decide +kernel
theorem dX2_putNote_25 : decode cX2_putNote 25 = .ok (.iand, 1) := by decide +kernel
theorem dX2_putNote_26 : decode cX2_putNote 26 = .ok (.putfield 33, 3) := by decide +kernel
theorem dX2_putNote_29 : decode cX2_putNote 29 = .ok (.return_, 1) := by decide +kernel
theorem dX2_exchange_0 : decode cX2_exchange 0 = .ok (.aload_n 0, 1) := by decide +kernel
theorem dX2_exchange_1 : decode cX2_exchange 1 = .ok (.iload_n 1, 1) := by decide +kernel
theorem dX2_exchange_2 : decode cX2_exchange 2 = .ok (.invokevirtual 36, 3) := by decide +kernel
theorem dX2_exchange_5 : decode cX2_exchange 5 = .ok (.ifCond .eq 11, 3) := by decide +kernel
theorem dX2_exchange_8 : decode cX2_exchange 8 = .ok (.aload_n 0, 1) := by decide +kernel
theorem dX2_exchange_9 : decode cX2_exchange 9 = .ok (.iload_n 2, 1) := by decide +kernel
theorem dX2_exchange_10 : decode cX2_exchange 10 = .ok (.invokevirtual 36, 3) := by decide +kernel
theorem dX2_exchange_13 : decode cX2_exchange 13 = .ok (.ifCond .ne 4, 3) := by decide +kernel
theorem dX2_exchange_16 : decode cX2_exchange 16 = .ok (.return_, 1) := by decide +kernel
theorem dX2_exchange_17 : decode cX2_exchange 17 = .ok (.aload_n 0, 1) := by decide +kernel
theorem dX2_exchange_18 : decode cX2_exchange 18 = .ok (.getfield 9, 3) := by decide +kernel
theorem dX2_exchange_21 : decode cX2_exchange 21 = .ok (.iload_n 1, 1) := by decide +kernel
theorem dX2_exchange_22 : decode cX2_exchange 22 = .ok (.iaload, 1) := by decide +kernel
theorem dX2_exchange_23 : decode cX2_exchange 23 = .ok (.istore_n 3, 1) := by decide +kernel
theorem dX2_exchange_24 : decode cX2_exchange 24 = .ok (.aload_n 0, 1) := by decide +kernel
theorem dX2_exchange_25 : decode cX2_exchange 25 = .ok (.getfield 15, 3) := by decide +kernel
theorem dX2_exchange_28 : decode cX2_exchange 28 = .ok (.iload_n 1, 1) := by decide +kernel
theorem dX2_exchange_29 : decode cX2_exchange 29 = .ok (.iaload, 1) := by decide +kernel
theorem dX2_exchange_30 : decode cX2_exchange 30 = .ok (.istore 4, 2) := by decide +kernel
theorem dX2_exchange_32 : decode cX2_exchange 32 = .ok (.aload_n 0, 1) := by decide +kernel
theorem dX2_exchange_33 : decode cX2_exchange 33 = .ok (.getfield 9, 3) := by decide +kernel
theorem dX2_exchange_36 : decode cX2_exchange 36 = .ok (.iload_n 1, 1) := by decide +kernel
theorem dX2_exchange_37 : decode cX2_exchange 37 = .ok (.aload_n 0, 1) := by decide +kernel
theorem dX2_exchange_38 : decode cX2_exchange 38 = .ok (.getfield 9, 3) := by decide +kernel
theorem dX2_exchange_41 : decode cX2_exchange 41 = .ok (.iload_n 2, 1) := by decide +kernel
theorem dX2_exchange_42 : decode cX2_exchange 42 = .ok (.iaload, 1) := by decide +kernel
theorem dX2_exchange_43 : decode cX2_exchange 43 = .ok (.iastore, 1) := by decide +kernel
theorem dX2_exchange_44 : decode cX2_exchange 44 = .ok (.aload_n 0, 1) := by decide +kernel
theorem dX2_exchange_45 : decode cX2_exchange 45 = .ok (.getfield 15, 3) := by decide +kernel
theorem dX2_exchange_48 : decode cX2_exchange 48 = .ok (.iload_n 1, 1) := by decide +kernel
theorem dX2_exchange_49 : decode cX2_exchange 49 = .ok (.aload_n 0, 1) := by decide +kernel
theorem dX2_exchange_50 : decode cX2_exchange 50 = .ok (.getfield 15, 3) := by decide +kernel
theorem dX2_exchange_53 : decode cX2_exchange 53 = .ok (.iload_n 2, 1) := by decide +kernel
theorem dX2_exchange_54 : decode cX2_exchange 54 = .ok (.iaload, 1) := by decide +kernel
theorem dX2_exchange_55 : decode cX2_exchange 55 = .ok (.iastore, 1) := by decide +kernel
theorem dX2_exchange_56 : decode cX2_exchange 56 = .ok (.aload_n 0, 1) := by decide +kernel
theorem dX2_exchange_57 : decode cX2_exchange 57 = .ok (.getfield 9, 3) := by decide +kernel
theorem dX2_exchange_60 : decode cX2_exchange 60 = .ok (.iload_n 2, 1) := by decide +kernel
theorem dX2_exchange_61 : decode cX2_exchange 61 = .ok (.iload_n 3, 1) := by decide +kernel
theorem dX2_exchange_62 : decode cX2_exchange 62 = .ok (.iastore, 1) := by decide +kernel
theorem dX2_exchange_63 : decode cX2_exchange 63 = .ok (.aload_n 0, 1) := by decide +kernel
theorem dX2_exchange_64 : decode cX2_exchange 64 = .ok (.getfield 15, 3) := by decide +kernel
theorem dX2_exchange_67 : decode cX2_exchange 67 = .ok (.iload_n 2, 1) := by decide +kernel
theorem dX2_exchange_68 : decode cX2_exchange 68 = .ok (.iload 4, 2) := by decide +kernel
theorem dX2_exchange_70 : decode cX2_exchange 70 = .ok (.iastore, 1) := by decide +kernel
theorem dX2_exchange_71 : decode cX2_exchange 71 = .ok (.return_, 1) := by decide +kernel
theorem dX2_endMorning_0 : decode cX2_endMorning 0 = .ok (.aload_n 0, 1) := by decide +kernel
theorem dX2_endMorning_1 : decode cX2_endMorning 1 = .ok (.iload_n 1, 1) := by decide +kernel
theorem dX2_endMorning_2 : decode cX2_endMorning 2 = .ok (.putfield 40, 3) := by decide +kernel
theorem dX2_endMorning_5 : decode cX2_endMorning 5 = .ok (.iconst 0, 1) := by decide +kernel
theorem dX2_endMorning_6 : decode cX2_endMorning 6 = .ok (.istore_n 3, 1) := by decide +kernel
theorem dX2_endMorning_7 : decode cX2_endMorning 7 = .ok (.iload_n 3, 1) := by decide +kernel
theorem dX2_endMorning_8 : decode cX2_endMorning 8 = .ok (.aload_n 0, 1) := by decide +kernel
theorem dX2_endMorning_9 : decode cX2_endMorning 9 = .ok (.getfield 21, 3) := by decide +kernel
theorem dX2_endMorning_12 : decode cX2_endMorning 12 = .ok (.if_icmp .ge 31, 3) := by decide +kernel
theorem dX2_endMorning_15 : decode cX2_endMorning 15 = .ok (.aload_n 0, 1) := by decide +kernel
theorem dX2_endMorning_16 : decode cX2_endMorning 16 = .ok (.iload_n 3, 1) := by decide +kernel
theorem dX2_endMorning_17 : decode cX2_endMorning 17 = .ok (.iload_n 3, 1) := by decide +kernel
theorem dX2_endMorning_18 : decode cX2_endMorning 18 = .ok (.iload_n 1, 1) := by decide +kernel
theorem dX2_endMorning_19 : decode cX2_endMorning 19 = .ok (.invokestatic 43, 3) := by decide +kernel
theorem dX2_endMorning_22 : decode cX2_endMorning 22 = .ok (.invokestatic 47, 3) := by decide +kernel
theorem dX2_endMorning_25 : decode cX2_endMorning 25 = .ok (.iload_n 2, 1) := by decide +kernel
theorem dX2_endMorning_26 : decode cX2_endMorning 26 = .ok (.if_icmp .lt 7, 3) := by decide +kernel
theorem dX2_endMorning_29 : decode cX2_endMorning 29 = .ok (.iconst 1, 1) := by decide +kernel
theorem dX2_endMorning_30 : decode cX2_endMorning 30 = .ok (.goto 4, 3) := by decide +kernel
theorem dX2_endMorning_33 : decode cX2_endMorning 33 = .ok (.iconst 0, 1) := by decide +kernel
theorem dX2_endMorning_34 : decode cX2_endMorning 34 = .ok (.invokevirtual 29, 3) := by decide +kernel
theorem dX2_endMorning_37 : decode cX2_endMorning 37 = .ok (.iinc 3 1, 3) := by decide +kernel
theorem dX2_endMorning_40 : decode cX2_endMorning 40 = .ok (.goto (-33), 3) := by decide +kernel
theorem dX2_endMorning_43 : decode cX2_endMorning 43 = .ok (.return_, 1) := by decide +kernel
theorem dX2_become_0 : decode cX2_become 0 = .ok (.aload_n 1, 1) := by decide +kernel
theorem dX2_become_1 : decode cX2_become 1 = .ok (.getfield 9, 3) := by decide +kernel
theorem dX2_become_4 : decode cX2_become 4 = .ok (.iconst 0, 1) := by decide +kernel
theorem dX2_become_5 : decode cX2_become 5 = .ok (.aload_n 0, 1) := by decide +kernel
theorem dX2_become_6 : decode cX2_become 6 = .ok (.getfield 9, 3) := by decide +kernel
theorem dX2_become_9 : decode cX2_become 9 = .ok (.iconst 0, 1) := by decide +kernel
theorem dX2_become_10 : decode cX2_become 10 = .ok (.iconst 4, 1) := by decide +kernel
theorem dX2_become_11 : decode cX2_become 11 = .ok (.invokestatic 53, 3) := by decide +kernel
theorem dX2_become_14 : decode cX2_become 14 = .ok (.aload_n 1, 1) := by decide +kernel
theorem dX2_become_15 : decode cX2_become 15 = .ok (.getfield 15, 3) := by decide +kernel
theorem dX2_become_18 : decode cX2_become 18 = .ok (.iconst 0, 1) := by decide +kernel
theorem dX2_become_19 : decode cX2_become 19 = .ok (.aload_n 0, 1) := by decide +kernel
theorem dX2_become_20 : decode cX2_become 20 = .ok (.getfield 15, 3) := by decide +kernel
theorem dX2_become_23 : decode cX2_become 23 = .ok (.iconst 0, 1) := by decide +kernel
theorem dX2_become_24 : decode cX2_become 24 = .ok (.iconst 4, 1) := by decide +kernel
theorem dX2_become_25 : decode cX2_become 25 = .ok (.invokestatic 53, 3) := by decide +kernel
theorem dX2_become_28 : decode cX2_become 28 = .ok (.aload_n 1, 1) := by decide +kernel
theorem dX2_become_29 : decode cX2_become 29 = .ok (.getfield 18, 3) := by decide +kernel
theorem dX2_become_32 : decode cX2_become 32 = .ok (.iconst 0, 1) := by decide +kernel
theorem dX2_become_33 : decode cX2_become 33 = .ok (.aload_n 0, 1) := by decide +kernel
theorem dX2_become_34 : decode cX2_become 34 = .ok (.getfield 18, 3) := by decide +kernel
theorem dX2_become_37 : decode cX2_become 37 = .ok (.iconst 0, 1) := by decide +kernel
theorem dX2_become_38 : decode cX2_become 38 = .ok (.iconst 4, 1) := by decide +kernel
theorem dX2_become_39 : decode cX2_become 39 = .ok (.invokestatic 53, 3) := by decide +kernel
theorem dX2_become_42 : decode cX2_become 42 = .ok (.aload_n 0, 1) := by decide +kernel
theorem dX2_become_43 : decode cX2_become 43 = .ok (.aload_n 1, 1) := by decide +kernel
theorem dX2_become_44 : decode cX2_become 44 = .ok (.getfield 21, 3) := by decide +kernel
theorem dX2_become_47 : decode cX2_become 47 = .ok (.putfield 21, 3) := by decide +kernel
theorem dX2_become_50 : decode cX2_become 50 = .ok (.aload_n 0, 1) := by decide +kernel
theorem dX2_become_51 : decode cX2_become 51 = .ok (.aload_n 1, 1) := by decide +kernel
theorem dX2_become_52 : decode cX2_become 52 = .ok (.getfield 33, 3) := by decide +kernel
theorem dX2_become_55 : decode cX2_become 55 = .ok (.putfield 33, 3) := by decide +kernel
theorem dX2_become_58 : decode cX2_become 58 = .ok (.aload_n 0, 1) := by decide +kernel
theorem dX2_become_59 : decode cX2_become 59 = .ok (.aload_n 1, 1) := by decide +kernel
theorem dX2_become_60 : decode cX2_become 60 = .ok (.getfield 40, 3) := by decide +kernel
theorem dX2_become_63 : decode cX2_become 63 = .ok (.putfield 40, 3) := by decide +kernel
theorem dX2_become_66 : decode cX2_become 66 = .ok (.return_, 1) := by decide +kernel
theorem dX3_init_0 : decode cX3_init 0 = .ok (.aload_n 0, 1) := by decide +kernel
theorem dX3_init_1 : decode cX3_init 1 = .ok (.invokespecial 3, 3) := by decide +kernel
theorem dX3_init_4 : decode cX3_init 4 = .ok (.aload_n 0, 1) := by decide +kernel
theorem dX3_init_5 : decode cX3_init 5 = .ok (.new 9, 3) := by decide +kernel
theorem dX3_init_8 : decode cX3_init 8 = .ok (.dup, 1) := by decide +kernel
theorem dX3_init_9 : decode cX3_init 9 = .ok (.invokespecial 11, 3) := by decide +kernel
theorem dX3_init_12 : decode cX3_init 12 = .ok (.putfield 12, 3) := by decide +kernel
theorem dX3_init_15 : decode cX3_init 15 = .ok (.aload_n 0, 1) := by decide +kernel
theorem dX3_init_16 : decode cX3_init 16 = .ok (.bipush 100, 2) := by decide +kernel
theorem dX3_init_18 : decode cX3_init 18 = .ok (.newarray .int, 2) := by decide +kernel
theorem dX3_init_20 : decode cX3_init 20 = .ok (.putfield 18, 3) := by decide +kernel
theorem dX3_init_23 : decode cX3_init 23 = .ok (.aload_n 0, 1) := by decide +kernel
theorem dX3_init_24 : decode cX3_init 24 = .ok (.bipush 10, 2) := by decide +kernel
theorem dX3_init_26 : decode cX3_init 26 = .ok (.newarray .int, 2) := by decide +kernel
theorem dX3_init_28 : decode cX3_init 28 = .ok (.putfield 22, 3) := by decide +kernel
theorem dX3_init_31 : decode cX3_init 31 = .ok (.return_, 1) := by decide +kernel
theorem dX3_become_0 : decode cX3_become 0 = .ok (.aload_n 0, 1) := by decide +kernel
theorem dX3_become_1 : decode cX3_become 1 = .ok (.getfield 12, 3) := by decide +kernel
theorem dX3_become_4 : decode cX3_become 4 = .ok (.aload_n 1, 1) := by decide +kernel
theorem dX3_become_5 : decode cX3_become 5 = .ok (.getfield 12, 3) := by decide +kernel
theorem dX3_become_8 : decode cX3_become 8 = .ok (.invokevirtual 25, 3) := by decide +kernel
theorem dX3_become_11 : decode cX3_become 11 = .ok (.aload_n 1, 1) := by decide +kernel
theorem dX3_become_12 : decode cX3_become 12 = .ok (.getfield 18, 3) := by decide +kernel
theorem dX3_become_15 : decode cX3_become 15 = .ok (.iconst 0, 1) := by decide +kernel
theorem dX3_become_16 : decode cX3_become 16 = .ok (.aload_n 0, 1) := by decide +kernel
theorem dX3_become_17 : decode cX3_become 17 = .ok (.getfield 18, 3) := by decide +kernel
theorem dX3_become_20 : decode cX3_become 20 = .ok (.iconst 0, 1) := by decide +kernel
theorem dX3_become_21 : decode cX3_become 21 = .ok (.bipush 100, 2) := by decide +kernel
theorem dX3_become_23 : decode cX3_become 23 = .ok (.invokestatic 29, 3) := by decide +kernel
theorem dX3_become_26 : decode cX3_become 26 = .ok (.aload_n 1, 1) := by decide +kernel
theorem dX3_become_27 : decode cX3_become 27 = .ok (.getfield 22, 3) := by decide +kernel
theorem dX3_become_30 : decode cX3_become 30 = .ok (.iconst 0, 1) := by decide +kernel
theorem dX3_become_31 : decode cX3_become 31 = .ok (.aload_n 0, 1) := by decide +kernel
theorem dX3_become_32 : decode cX3_become 32 = .ok (.getfield 22, 3) := by decide +kernel
theorem dX3_become_35 : decode cX3_become 35 = .ok (.iconst 0, 1) := by decide +kernel
theorem dX3_become_36 : decode cX3_become 36 = .ok (.bipush 10, 2) := by decide +kernel
theorem dX3_become_38 : decode cX3_become 38 = .ok (.invokestatic 29, 3) := by decide +kernel
theorem dX3_become_41 : decode cX3_become 41 = .ok (.aload_n 0, 1) := by decide +kernel
theorem dX3_become_42 : decode cX3_become 42 = .ok (.aload_n 1, 1) := by decide +kernel
theorem dX3_become_43 : decode cX3_become 43 = .ok (.getfield 35, 3) := by decide +kernel
theorem dX3_become_46 : decode cX3_become 46 = .ok (.putfield 35, 3) := by decide +kernel
theorem dX3_become_49 : decode cX3_become 49 = .ok (.aload_n 0, 1) := by decide +kernel
theorem dX3_become_50 : decode cX3_become 50 = .ok (.aload_n 1, 1) := by decide +kernel
theorem dX3_become_51 : decode cX3_become 51 = .ok (.getfield 39, 3) := by decide +kernel
theorem dX3_become_54 : decode cX3_become 54 = .ok (.putfield 39, 3) := by decide +kernel
theorem dX3_become_57 : decode cX3_become 57 = .ok (.aload_n 0, 1) := by decide +kernel
theorem dX3_become_58 : decode cX3_become 58 = .ok (.aload_n 1, 1) := by decide +kernel
theorem dX3_become_59 : decode cX3_become 59 = .ok (.getfield 42, 3) := by decide +kernel
theorem dX3_become_62 : decode cX3_become 62 = .ok (.putfield 42, 3) := by decide +kernel
theorem dX3_become_65 : decode cX3_become 65 = .ok (.return_, 1) := by decide +kernel
theorem dX4_init_0 : decode cX4_init 0 = .ok (.aload_n 0, 1) := by decide +kernel
theorem dX4_init_1 : decode cX4_init 1 = .ok (.invokespecial 3, 3) := by decide +kernel
theorem dX4_init_4 : decode cX4_init 4 = .ok (.aload_n 0, 1) := by decide +kernel
theorem dX4_init_5 : decode cX4_init 5 = .ok (.bipush 100, 2) := by decide +kernel
theorem dX4_init_7 : decode cX4_init 7 = .ok (.newarray .int, 2) := by decide +kernel
theorem dX4_init_9 : decode cX4_init 9 = .ok (.putfield 9, 3) := by decide +kernel
theorem dX4_init_12 : decode cX4_init 12 = .ok (.aload_n 0, 1) := by decide +kernel
theorem dX4_init_13 : decode cX4_init 13 = .ok (.bipush 100, 2) := by decide +kernel
theorem dX4_init_15 : decode cX4_init 15 = .ok (.newarray .int, 2) := by decide +kernel
theorem dX4_init_17 : decode cX4_init 17 = .ok (.putfield 15, 3) := by decide +kernel
theorem dX4_init_20 : decode cX4_init 20 = .ok (.aload_n 0, 1) := by decide +kernel
theorem dX4_init_21 : decode cX4_init 21 = .ok (.bipush 8, 2) := by decide +kernel
theorem dX4_init_23 : decode cX4_init 23 = .ok (.newarray .int, 2) := by decide +kernel
theorem dX4_init_25 : decode cX4_init 25 = .ok (.putfield 18, 3) := by decide +kernel
theorem dX4_init_28 : decode cX4_init 28 = .ok (.aload_n 0, 1) := by decide +kernel
theorem dX4_init_29 : decode cX4_init 29 = .ok (.bipush 8, 2) := by decide +kernel
theorem dX4_init_31 : decode cX4_init 31 = .ok (.newarray .int, 2) := by decide +kernel
theorem dX4_init_33 : decode cX4_init 33 = .ok (.putfield 21, 3) := by decide +kernel
theorem dX4_init_36 : decode cX4_init 36 = .ok (.return_, 1) := by decide +kernel
theorem dX4_read_0 : decode cX4_read 0 = .ok (.aload_n 0, 1) := by decide +kernel
theorem dX4_read_1 : decode cX4_read 1 = .ok (.iconst 0, 1) := by decide +kernel
theorem dX4_read_2 : decode cX4_read 2 = .ok (.iload_n 2, 1) := by decide +kernel
theorem dX4_read_3 : decode cX4_read 3 = .ok (.bipush 100, 2) := by decide +kernel
theorem dX4_read_5 : decode cX4_read 5 = .ok (.invokestatic 24, 3) := by decide +kernel
theorem dX4_read_8 : decode cX4_read 8 = .ok (.invokestatic 30, 3) := by decide +kernel
theorem dX4_read_11 : decode cX4_read 11 = .ok (.putfield 33, 3) := by decide +kernel
theorem dX4_read_14 : decode cX4_read 14 = .ok (.aload_n 1, 1) := by decide +kernel
theorem dX4_read_15 : decode cX4_read 15 = .ok (.iconst 0, 1) := by decide +kernel
theorem dX4_read_16 : decode cX4_read 16 = .ok (.aload_n 0, 1) := by decide +kernel
theorem dX4_read_17 : decode cX4_read 17 = .ok (.getfield 9, 3) := by decide +kernel
theorem dX4_read_20 : decode cX4_read 20 = .ok (.iconst 0, 1) := by decide +kernel
theorem dX4_read_21 : decode cX4_read 21 = .ok (.aload_n 1, 1) := by decide +kernel
theorem dX4_read_22 : decode cX4_read 22 = .ok (.arraylength, 1) := by decide +kernel
theorem dX4_read_23 : decode cX4_read 23 = .ok (.bipush 100, 2) := by decide +kernel
theorem dX4_read_25 : decode cX4_read 25 = .ok (.invokestatic 24, 3) := by decide +kernel
theorem dX4_read_28 : decode cX4_read 28 = .ok (.invokestatic 37, 3) := by decide +kernel
theorem dX4_read_31 : decode cX4_read 31 = .ok (.aload_n 0, 1) := by decide +kernel
theorem dX4_read_32 : decode cX4_read 32 = .ok (.iconst 0, 1) := by decide +kernel
theorem dX4_read_33 : decode cX4_read 33 = .ok (.putfield 43, 3) := by decide +kernel
theorem dX4_read_36 : decode cX4_read 36 = .ok (.aload_n 0, 1) := by decide +kernel
theorem dX4_read_37 : decode cX4_read 37 = .ok (.iconst 0, 1) := by decide +kernel
theorem dX4_read_38 : decode cX4_read 38 = .ok (.putfield 46, 3) := by decide +kernel
theorem dX4_read_41 : decode cX4_read 41 = .ok (.aload_n 0, 1) := by decide +kernel
theorem dX4_read_42 : decode cX4_read 42 = .ok (.iconst 0, 1) := by decide +kernel
theorem dX4_read_43 : decode cX4_read 43 = .ok (.putfield 49, 3) := by decide +kernel
theorem dX4_read_46 : decode cX4_read 46 = .ok (.aload_n 0, 1) := by decide +kernel
theorem dX4_read_47 : decode cX4_read 47 = .ok (.iconst 0, 1) := by decide +kernel
theorem dX4_read_48 : decode cX4_read 48 = .ok (.putfield 52, 3) := by decide +kernel
theorem dX4_read_51 : decode cX4_read 51 = .ok (.bipush 7, 2) := by decide +kernel
theorem dX4_read_53 : decode cX4_read 53 = .ok (.istore_n 3, 1) := by decide +kernel
theorem dX4_read_54 : decode cX4_read 54 = .ok (.iload_n 3, 1) := by decide +kernel
theorem dX4_read_55 : decode cX4_read 55 = .ok (.ifCond .lt 52, 3) := by decide +kernel
theorem dX4_read_58 : decode cX4_read 58 = .ok (.aload_n 0, 1) := by decide +kernel
theorem dX4_read_59 : decode cX4_read 59 = .ok (.invokevirtual 55, 3) := by decide +kernel
theorem dX4_read_62 : decode cX4_read 62 = .ok (.ifCond .ne 8, 3) := by decide +kernel
theorem dX4_read_65 : decode cX4_read 65 = .ok (.aload_n 0, 1) := by decide +kernel
theorem dX4_read_66 : decode cX4_read 66 = .ok (.getfield 43, 3) := by decide +kernel
theorem dX4_read_69 : decode cX4_read 69 = .ok (.ireturn, 1) := by decide +kernel
theorem dX4_read_70 : decode cX4_read 70 = .ok (.aload_n 0, 1) := by decide +kernel
theorem dX4_read_71 : decode cX4_read 71 = .ok (.getfield 43, 3) := by decide +kernel
theorem dX4_read_74 : decode cX4_read 74 = .ok (.aload_n 0, 1) := by decide +kernel
theorem dX4_read_75 : decode cX4_read 75 = .ok (.getfield 33, 3) := by decide +kernel
theorem dX4_read_78 : decode cX4_read 78 = .ok (.if_icmp .lt 5, 3) := by decide +kernel
theorem dX4_read_81 : decode cX4_read 81 = .ok (.iconst (-1), 1) := by decide +kernel
theorem dX4_read_82 : decode cX4_read 82 = .ok (.ireturn, 1) := by decide +kernel
theorem dX4_read_83 : decode cX4_read 83 = .ok (.iload_n 3, 1) := by decide +kernel
theorem dX4_read_84 : decode cX4_read 84 = .ok (.ifCond .eq 12, 3) := by decide +kernel
theorem dX4_read_87 : decode cX4_read 87 = .ok (.aload_n 0, 1) := by decide +kernel
theorem dX4_read_88 : decode cX4_read 88 = .ok (.bipush 59, 2) := by decide +kernel
theorem dX4_read_90 : decode cX4_read 90 = .ok (.invokevirtual 59, 3) := by decide +kernel
theorem dX4_read_93 : decode cX4_read 93 = .ok (.ifCond .ne 8, 3) := by decide +kernel
theorem dX4_read_96 : decode cX4_read 96 = .ok (.aload_n 0, 1) := by decide +kernel
theorem dX4_read_97 : decode cX4_read 97 = .ok (.getfield 43, 3) := by decide +kernel
theorem dX4_read_100 : decode cX4_read 100 = .ok (.ireturn, 1) := by decide +kernel
theorem dX4_read_101 : decode cX4_read 101 = .ok (.iinc 3 (-1), 3) := by decide +kernel
theorem dX4_read_104 : decode cX4_read 104 = .ok (.goto (-50), 3) := by decide +kernel
theorem dX4_read_107 : decode cX4_read 107 = .ok (.aload_n 0, 1) := by decide +kernel
theorem dX4_read_108 : decode cX4_read 108 = .ok (.getfield 43, 3) := by decide +kernel
theorem dX4_read_111 : decode cX4_read 111 = .ok (.ireturn, 1) := by decide +kernel
theorem dX4_sign_0 : decode cX4_sign 0 = .ok (.aload_n 0, 1) := by decide +kernel
theorem dX4_sign_1 : decode cX4_sign 1 = .ok (.getfield 43, 3) := by decide +kernel
theorem dX4_sign_4 : decode cX4_sign 4 = .ok (.ifCond .lt 35, 3) := by decide +kernel
theorem dX4_sign_7 : decode cX4_sign 7 = .ok (.aload_n 0, 1) := by decide +kernel
theorem dX4_sign_8 : decode cX4_sign 8 = .ok (.getfield 43, 3) := by decide +kernel
theorem dX4_sign_11 : decode cX4_sign 11 = .ok (.aload_n 0, 1) := by decide +kernel
theorem dX4_sign_12 : decode cX4_sign 12 = .ok (.getfield 33, 3) := by decide +kernel
theorem dX4_sign_15 : decode cX4_sign 15 = .ok (.if_icmp .ge 24, 3) := by decide +kernel
theorem dX4_sign_18 : decode cX4_sign 18 = .ok (.aload_n 0, 1) := by decide +kernel
theorem dX4_sign_19 : decode cX4_sign 19 = .ok (.getfield 43, 3) := by decide +kernel
theorem dX4_sign_22 : decode cX4_sign 22 = .ok (.bipush 100, 2) := by decide +kernel
theorem dX4_sign_24 : decode cX4_sign 24 = .ok (.if_icmp .ge 15, 3) := by decide +kernel
theorem dX4_sign_27 : decode cX4_sign 27 = .ok (.aload_n 0, 1) := by decide +kernel
theorem dX4_sign_28 : decode cX4_sign 28 = .ok (.getfield 9, 3) := by decide +kernel
theorem dX4_sign_31 : decode cX4_sign 31 = .ok (.aload_n 0, 1) := by decide +kernel
theorem dX4_sign_32 : decode cX4_sign 32 = .ok (.getfield 43, 3) := by decide +kernel
theorem dX4_sign_35 : decode cX4_sign 35 = .ok (.iaload, 1) := by decide +kernel
theorem dX4_sign_36 : decode cX4_sign 36 = .ok (.goto 4, 3) := by decide +kernel
theorem dX4_sign_39 : decode cX4_sign 39 = .ok (.iconst (-1), 1) := by decide +kernel
theorem dX4_sign_40 : decode cX4_sign 40 = .ok (.ireturn, 1) := by decide +kernel
theorem dX4_take_0 : decode cX4_take 0 = .ok (.aload_n 0, 1) := by decide +kernel
theorem dX4_take_1 : decode cX4_take 1 = .ok (.invokevirtual 63, 3) := by decide +kernel
theorem dX4_take_4 : decode cX4_take 4 = .ok (.iload_n 1, 1) := by decide +kernel
theorem dX4_take_5 : decode cX4_take 5 = .ok (.if_icmp .eq 5, 3) := by decide +kernel
theorem dX4_take_8 : decode cX4_take 8 = .ok (.iconst 0, 1) := by decide +kernel
theorem dX4_take_9 : decode cX4_take 9 = .ok (.ireturn, 1) := by decide +kernel
theorem dX4_take_10 : decode cX4_take 10 = .ok (.aload_n 0, 1) := by decide +kernel
theorem dX4_take_11 : decode cX4_take 11 = .ok (.dup, 1) := by decide +kernel
theorem dX4_take_12 : decode cX4_take 12 = .ok (.getfield 43, 3) := by decide +kernel
theorem dX4_take_15 : decode cX4_take 15 = .ok (.iconst 1, 1) := by decide +kernel
theorem dX4_take_16 : decode cX4_take 16 = .ok (.iadd, 1) := by decide +kernel
theorem dX4_take_17 : decode cX4_take 17 = .ok (.putfield 43, 3) := by decide +kernel
theorem dX4_take_20 : decode cX4_take 20 = .ok (.iconst 1, 1) := by decide +kernel
theorem dX4_take_21 : decode cX4_take 21 = .ok (.ireturn, 1) := by decide +kernel
theorem dX4_takeOneOf_0 : decode cX4_takeOneOf 0 = .ok (.aload_n 0, 1) := by decide +kernel
theorem dX4_takeOneOf_1 : decode cX4_takeOneOf 1 = .ok (.invokevirtual 63, 3) := by decide +kernel
theorem dX4_takeOneOf_4 : decode cX4_takeOneOf 4 = .ok (.istore_n 2, 1) := by decide +kernel
theorem dX4_takeOneOf_5 : decode cX4_takeOneOf 5 = .ok (.iconst 0, 1) := by decide +kernel
theorem dX4_takeOneOf_6 : decode cX4_takeOneOf 6 = .ok (.istore_n 3, 1) := by decide +kernel
theorem dX4_takeOneOf_7 : decode cX4_takeOneOf 7 = .ok (.iload_n 3, 1) := by decide +kernel
theorem dX4_takeOneOf_8 : decode cX4_takeOneOf 8 = .ok (.aload_n 1, 1) := by decide +kernel
theorem dX4_takeOneOf_9 : decode cX4_takeOneOf 9 = .ok (.invokevirtual 67, 3) := by decide +kernel
theorem dX4_takeOneOf_12 : decode cX4_takeOneOf 12 = .ok (.if_icmp .ge 30, 3) := by decide +kernel
theorem dX4_takeOneOf_15 : decode cX4_takeOneOf 15 = .ok (.aload_n 1, 1) := by decide +kernel
theorem dX4_takeOneOf_16 : decode cX4_takeOneOf 16 = .ok (.iload_n 3, 1) := by decide +kernel
theorem dX4_takeOneOf_17 : decode cX4_takeOneOf 17 = .ok (.invokevirtual 72, 3) := by decide +kernel
theorem dX4_takeOneOf_20 : decode cX4_takeOneOf 20 = .ok (.iload_n 2, 1) := by decide +kernel
theorem dX4_takeOneOf_21 : decode cX4_takeOneOf 21 = .ok (.if_icmp .ne 15, 3) := by decide +kernel
theorem dX4_takeOneOf_24 : decode cX4_takeOneOf 24 = .ok (.aload_n 0, 1) := by decide +kernel
theorem dX4_takeOneOf_25 : decode cX4_takeOneOf 25 = .ok (.dup, 1) := by decide +kernel
theorem dX4_takeOneOf_26 : decode cX4_takeOneOf 26 = .ok (.getfield 43, 3) := by decide +kernel
theorem dX4_takeOneOf_29 : decode cX4_takeOneOf 29 = .ok (.iconst 1, 1) := by decide +kernel
theorem dX4_takeOneOf_30 : decode cX4_takeOneOf 30 = .ok (.iadd, 1) := by decide +kernel
theorem dX4_takeOneOf_31 : decode cX4_takeOneOf 31 = .ok (.putfield 43, 3) := by decide +kernel
theorem dX4_takeOneOf_34 : decode cX4_takeOneOf 34 = .ok (.iload_n 3, 1) := by decide +kernel
theorem dX4_takeOneOf_35 : decode cX4_takeOneOf 35 = .ok (.ireturn, 1) := by decide +kernel
theorem dX4_takeOneOf_36 : decode cX4_takeOneOf 36 = .ok (.iinc 3 1, 3) := by decide +kernel
theorem dX4_takeOneOf_39 : decode cX4_takeOneOf 39 = .ok (.goto (-32), 3) := by decide +kernel
theorem dX4_takeOneOf_42 : decode cX4_takeOneOf 42 = .ok (.iconst (-1), 1) := by decide +kernel
theorem dX4_takeOneOf_43 : decode cX4_takeOneOf 43 = .ok (.ireturn, 1) := by decide +kernel
theorem dX4_takeWord_0 : decode cX4_takeWord 0 = .ok (.iconst 0, 1) := by decide +kernel
theorem dX4_takeWord_1 : decode cX4_takeWord 1 = .ok (.istore_n 2, 1) := by decide +kernel
theorem dX4_takeWord_2 : decode cX4_takeWord 2 = .ok (.iload_n 2, 1) := by decide +kernel
theorem dX4_takeWord_3 : decode cX4_takeWord 3 = .ok (.aload_n 1, 1) := by decide +kernel
theorem dX4_takeWord_4 : decode cX4_takeWord 4 = .ok (.invokevirtual 67, 3) := by decide +kernel
theorem dX4_takeWord_7 : decode cX4_takeWord 7 = .ok (.if_icmp .ge 23, 3) := by decide +kernel
theorem dX4_takeWord_10 : decode cX4_takeWord 10 = .ok (.aload_n 0, 1) := by decide +kernel
theorem dX4_takeWord_11 : decode cX4_takeWord 11 = .ok (.aload_n 1, 1) := by decide +kernel
theorem dX4_takeWord_12 : decode cX4_takeWord 12 = .ok (.iload_n 2, 1) := by decide +kernel
theorem dX4_takeWord_13 : decode cX4_takeWord 13 = .ok (.invokevirtual 72, 3) := by decide +kernel
theorem dX4_takeWord_16 : decode cX4_takeWord 16 = .ok (.invokevirtual 59, 3) := by decide +kernel
theorem dX4_takeWord_19 : decode cX4_takeWord 19 = .ok (.ifCond .ne 5, 3) := by decide +kernel
theorem dX4_takeWord_22 : decode cX4_takeWord 22 = .ok (.iconst 0, 1) := by decide +kernel
theorem dX4_takeWord_23 : decode cX4_takeWord 23 = .ok (.ireturn, 1) := by decide +kernel
theorem dX4_takeWord_24 : decode cX4_takeWord 24 = .ok (.iinc 2 1, 3) := by decide +kernel
theorem dX4_takeWord_27 : decode cX4_takeWord 27 = .ok (.goto (-25), 3) := by decide +kernel
theorem dX4_takeWord_30 : decode cX4_takeWord 30 = .ok (.aload_n 0, 1) := by decide +kernel
theorem dX4_takeWord_31 : decode cX4_takeWord 31 = .ok (.bipush 32, 2) := by decide +kernel
theorem dX4_takeWord_33 : decode cX4_takeWord 33 = .ok (.invokevirtual 59, 3) := by decide +kernel
theorem dX4_takeWord_36 : decode cX4_takeWord 36 = .ok (.ireturn, 1) := by decide +kernel
theorem dX4_readClause_0 : decode cX4_readClause 0 = .ok (.aload_n 0, 1) := by decide +kernel
theorem dX4_readClause_1 : decode cX4_readClause 1 = .ok (.invokevirtual 63, 3) := by decide +kernel
theorem dX4_readClause_4 : decode cX4_readClause 4 = .ok (.bipush 110, 2) := by decide +kernel
theorem dX4_readClause_6 : decode cX4_readClause 6 = .ok (.if_icmp .ne 7, 3) := by decide +kernel
theorem dX4_readClause_9 : decode cX4_readClause 9 = .ok (.iconst 1, 1) := by decide +kernel
theorem dX4_readClause_10 : decode cX4_readClause 10 = .ok (.goto 4, 3) := by decide +kernel
theorem dX4_readClause_13 : decode cX4_readClause 13 = .ok (.iconst 0, 1) := by decide +kernel
theorem dX4_readClause_14 : decode cX4_readClause 14 = .ok (.istore_n 1, 1) := by decide +kernel
theorem dX4_readClause_15 : decode cX4_readClause 15 = .ok (.aload_n 0, 1) := by decide +kernel
theorem dX4_readClause_16 : decode cX4_readClause 16 = .ok (.invokevirtual 63, 3) := by decide +kernel
theorem dX4_readClause_19 : decode cX4_readClause 19 = .ok (.bipush 104, 2) := by decide +kernel
theorem dX4_readClause_21 : decode cX4_readClause 21 = .ok (.if_icmp .ne 7, 3) := by decide +kernel
theorem dX4_readClause_24 : decode cX4_readClause 24 = .ok (.iconst 1, 1) := by decide +kernel
theorem dX4_readClause_25 : decode cX4_readClause 25 = .ok (.goto 4, 3) := by decide +kernel
theorem dX4_readClause_28 : decode cX4_readClause 28 = .ok (.iconst 0, 1) := by decide +kernel
theorem dX4_readClause_29 : decode cX4_readClause 29 = .ok (.istore_n 2, 1) := by decide +kernel
theorem dX4_readClause_30 : decode cX4_readClause 30 = .ok (.aload_n 0, 1) := by decide +kernel
theorem dX4_readClause_31 : decode cX4_readClause 31 = .ok (.iload_n 1, 1) := by decide +kernel
theorem dX4_readClause_32 : decode cX4_readClause 32 = .ok (.ifCond .eq 8, 3) := by decide +kernel
theorem dX4_readClause_35 : decode cX4_readClause 35 = .ok (.ldc 76, 2) := by decide +kernel
theorem dX4_readClause_37 : decode cX4_readClause 37 = .ok (.goto 14, 3) := by decide +kernel
theorem dX4_readClause_40 : decode cX4_readClause 40 = .ok (.iload_n 2, 1) := by decide +kernel
theorem dX4_readClause_41 : decode cX4_readClause 41 = .ok (.ifCond .eq 8, 3) := by decide +kernel
theorem dX4_readClause_44 : decode cX4_readClause 44 = .ok (.ldc 78, 2) := by decide +kernel
theorem dX4_readClause_46 : decode cX4_readClause 46 = .ok (.goto 5, 3) := by decide +kernel
theorem dX4_readClause_49 : decode cX4_readClause 49 = .ok (.ldc 80, 2) := by decide +kernel
theorem dX4_readClause_51 : decode cX4_readClause 51 = .ok (.invokevirtual 82, 3) := by decide +kernel
theorem dX4_readClause_54 : decode cX4_readClause 54 = .ok (.ifCond .ne 5, 3) := by decide +kernel
theorem dX4_readClause_57 : decode cX4_readClause 57 = .ok (.iconst 0, 1) := by decide +kernel
theorem dX4_readClause_58 : decode cX4_readClause 58 = .ok (.ireturn, 1) := by decide +kernel
theorem dX4_readClause_59 : decode cX4_readClause 59 = .ok (.aload_n 0, 1) := by decide +kernel
theorem dX4_readClause_60 : decode cX4_readClause 60 = .ok (.invokevirtual 86, 3) := by decide +kernel
theorem dX4_readClause_63 : decode cX4_readClause 63 = .ok (.istore_n 3, 1) := by decide +kernel
theorem dX4_readClause_64 : decode cX4_readClause 64 = .ok (.iload_n 3, 1) := by decide +kernel
theorem dX4_readClause_65 : decode cX4_readClause 65 = .ok (.ifCond .ge 5, 3) := by decide +kernel
theorem dX4_readClause_68 : decode cX4_readClause 68 = .ok (.iconst 0, 1) := by decide +kernel
theorem dX4_readClause_69 : decode cX4_readClause 69 = .ok (.ireturn, 1) := by decide +kernel
theorem dX4_readClause_70 : decode cX4_readClause 70 = .ok (.iload_n 1, 1) := by decide +kernel
theorem dX4_readClause_71 : decode cX4_readClause 71 = .ok (.ifCond .eq 10, 3) := by decide +kernel
theorem dX4_readClause_74 : decode cX4_readClause 74 = .ok (.aload_n 0, 1) := by decide +kernel
theorem dX4_readClause_75 : decode cX4_readClause 75 = .ok (.iload_n 3, 1) := by decide +kernel
theorem dX4_readClause_76 : decode cX4_readClause 76 = .ok (.putfield 52, 3) := by decide +kernel
theorem dX4_readClause_79 : decode cX4_readClause 79 = .ok (.iconst 1, 1) := by decide +kernel
theorem dX4_readClause_80 : decode cX4_readClause 80 = .ok (.ireturn, 1) := by decide +kernel
theorem dX4_readClause_81 : decode cX4_readClause 81 = .ok (.aload_n 0, 1) := by decide +kernel
theorem dX4_readClause_82 : decode cX4_readClause 82 = .ok (.bipush 32, 2) := by decide +kernel
theorem dX4_readClause_84 : decode cX4_readClause 84 = .ok (.invokevirtual 59, 3) := by decide +kernel
theorem dX4_readClause_87 : decode cX4_readClause 87 = .ok (.ifCond .eq 11, 3) := by decide +kernel
theorem dX4_readClause_90 : decode cX4_readClause 90 = .ok (.aload_n 0, 1) := by decide +kernel
theorem dX4_readClause_91 : decode cX4_readClause 91 = .ok (.iconst 0, 1) := by decide +kernel
theorem dX4_readClause_92 : decode cX4_readClause 92 = .ok (.invokevirtual 89, 3) := by decide +kernel
theorem dX4_readClause_95 : decode cX4_readClause 95 = .ok (.ifCond .ne 5, 3) := by decide +kernel
theorem dX4_readClause_98 : decode cX4_readClause 98 = .ok (.iconst 0, 1) := by decide +kernel
theorem dX4_readClause_99 : decode cX4_readClause 99 = .ok (.ireturn, 1) := by decide +kernel
theorem dX4_readClause_100 : decode cX4_readClause 100 = .ok (.aload_n 0, 1) := by decide +kernel
theorem dX4_readClause_101 : decode cX4_readClause 101 = .ok (.iload_n 2, 1) := by decide +kernel
theorem dX4_readClause_102 : decode cX4_readClause 102 = .ok (.ifCond .eq 8, 3) := by decide +kernel
theorem dX4_readClause_105 : decode cX4_readClause 105 = .ok (.iload_n 3, 1) := by decide +kernel
theorem dX4_readClause_106 : decode cX4_readClause 106 = .ok (.ineg, 1) := by decide +kernel
theorem dX4_readClause_107 : decode cX4_readClause 107 = .ok (.goto 4, 3) := by decide +kernel
theorem dX4_readClause_110 : decode cX4_readClause 110 = .ok (.iload_n 3, 1) := by decide +kernel
theorem dX4_readClause_111 : decode cX4_readClause 111 = .ok (.invokevirtual 92, 3) := by decide +kernel
theorem dX4_readClause_114 : decode cX4_readClause 114 = .ok (.iconst 1, 1) := by decide +kernel
theorem dX4_readClause_115 : decode cX4_readClause 115 = .ok (.ireturn, 1) := by decide +kernel
theorem dX4_keepClause_0 : decode cX4_keepClause 0 = .ok (.aload_n 0, 1) := by decide +kernel
theorem dX4_keepClause_1 : decode cX4_keepClause 1 = .ok (.getfield 49, 3) := by decide +kernel
theorem dX4_keepClause_4 : decode cX4_keepClause 4 = .ok (.ifCond .lt 45, 3) := by decide +kernel
theorem dX4_keepClause_7 : decode cX4_keepClause 7 = .ok (.aload_n 0, 1) := by decide +kernel
theorem dX4_keepClause_8 : decode cX4_keepClause 8 = .ok (.getfield 49, 3) := by decide +kernel
theorem dX4_keepClause_11 : decode cX4_keepClause 11 = .ok (.bipush 8, 2) := by decide +kernel
theorem dX4_keepClause_13 : decode cX4_keepClause 13 = .ok (.if_icmp .ge 36, 3) := by decide +kernel
theorem dX4_keepClause_16 : decode cX4_keepClause 16 = .ok (.aload_n 0, 1) := by decide +kernel
theorem dX4_keepClause_17 : decode cX4_keepClause 17 = .ok (.getfield 18, 3) := by decide +kernel
theorem dX4_keepClause_20 : decode cX4_keepClause 20 = .ok (.aload_n 0, 1) := by decide +kernel
theorem dX4_keepClause_21 : decode cX4_keepClause 21 = .ok (.getfield 49, 3) := by decide +kernel
theorem dX4_keepClause_24 : decode cX4_keepClause 24 = .ok (.iload_n 1, 1) := by decide +kernel
theorem dX4_keepClause_25 : decode cX4_keepClause 25 = .ok (.iastore, 1) := by decide +kernel
theorem dX4_keepClause_26 : decode cX4_keepClause 26 = .ok (.aload_n 0, 1) := by decide +kernel
theorem dX4_keepClause_27 : decode cX4_keepClause 27 = .ok (.getfield 21, 3) := by decide +kernel
theorem dX4_keepClause_30 : decode cX4_keepClause 30 = .ok (.aload_n 0, 1) := by decide +kernel
theorem dX4_keepClause_31 : decode cX4_keepClause 31 = .ok (.getfield 49, 3) := by decide +kernel
theorem dX4_keepClause_34 : decode cX4_keepClause 34 = .ok (.aload_n 0, 1) := by decide +kernel
theorem dX4_keepClause_35 : decode cX4_keepClause 35 = .ok (.getfield 46, 3) := by decide +kernel
theorem dX4_keepClause_38 : decode cX4_keepClause 38 = .ok (.iastore, 1) := by decide +kernel
theorem dX4_keepClause_39 : decode cX4_keepClause 39 = .ok (.aload_n 0, 1) := by decide +kernel
theorem dX4_keepClause_40 : decode cX4_keepClause 40 = .ok (.dup, 1) := by decide +kernel
theorem dX4_keepClause_41 : decode cX4_keepClause 41 = .ok (.getfield 49, 3) := by decide +kernel
theorem dX4_keepClause_44 : decode cX4_keepClause 44 = .ok (.iconst 1, 1) := by decide +kernel
theorem dX4_keepClause_45 : decode cX4_keepClause 45 = .ok (.iadd, 1) := by decide +kernel
theorem dX4_keepClause_46 : decode cX4_keepClause 46 = .ok (.putfield 49, 3) := by decide +kernel
theorem dX4_keepClause_49 : decode cX4_keepClause 49 = .ok (.return_, 1) := by decide +kernel
theorem dX4_keepCode_0 : decode cX4_keepCode 0 = .ok (.aload_n 0, 1) := by decide +kernel
theorem dX4_keepCode_1 : decode cX4_keepCode 1 = .ok (.getfield 46, 3) := by decide +kernel
theorem dX4_keepCode_4 : decode cX4_keepCode 4 = .ok (.ifCond .lt 32, 3) := by decide +kernel
theorem dX4_keepCode_7 : decode cX4_keepCode 7 = .ok (.aload_n 0, 1) := by decide +kernel
theorem dX4_keepCode_8 : decode cX4_keepCode 8 = .ok (.getfield 46, 3) := by decide +kernel
theorem dX4_keepCode_11 : decode cX4_keepCode 11 = .ok (.bipush 100, 2) := by decide +kernel
theorem dX4_keepCode_13 : decode cX4_keepCode 13 = .ok (.if_icmp .ge 23, 3) := by decide +kernel
theorem dX4_keepCode_16 : decode cX4_keepCode 16 = .ok (.aload_n 0, 1) := by decide +kernel
theorem dX4_keepCode_17 : decode cX4_keepCode 17 = .ok (.getfield 15, 3) := by decide +kernel
theorem dX4_keepCode_20 : decode cX4_keepCode 20 = .ok (.aload_n 0, 1) := by decide +kernel
theorem dX4_keepCode_21 : decode cX4_keepCode 21 = .ok (.getfield 46, 3) := by decide +kernel
theorem dX4_keepCode_24 : decode cX4_keepCode 24 = .ok (.iload_n 1, 1) := by decide +kernel
theorem dX4_keepCode_25 : decode cX4_keepCode 25 = .ok (.iastore, 1) := by decide +kernel
theorem dX4_keepCode_26 : decode cX4_keepCode 26 = .ok (.aload_n 0, 1) := by decide +kernel
theorem dX4_keepCode_27 : decode cX4_keepCode 27 = .ok (.dup, 1) := by decide +kernel
theorem dX4_keepCode_28 : decode cX4_keepCode 28 = .ok (.getfield 46, 3) := by decide +kernel
theorem dX4_keepCode_31 : decode cX4_keepCode 31 = .ok (.iconst 1, 1) := by decide +kernel
theorem dX4_keepCode_32 : decode cX4_keepCode 32 = .ok (.iadd, 1) := by decide +kernel
theorem dX4_keepCode_33 : decode cX4_keepCode 33 = .ok (.putfield 46, 3) := by decide +kernel
theorem dX4_keepCode_36 : decode cX4_keepCode 36 = .ok (.return_, 1) := by decide +kernel
theorem dX4_readNumber_0 : decode cX4_readNumber 0 = .ok (.aload_n 0, 1) := by decide +kernel
theorem dX4_readNumber_1 : decode cX4_readNumber 1 = .ok (.ldc 96, 2) := by decide +kernel
theorem dX4_readNumber_3 : decode cX4_readNumber 3 = .ok (.invokevirtual 98, 3) := by decide +kernel
theorem dX4_readNumber_6 : decode cX4_readNumber 6 = .ok (.istore_n 1, 1) := by decide +kernel
theorem dX4_readNumber_7 : decode cX4_readNumber 7 = .ok (.iload_n 1, 1) := by decide +kernel
theorem dX4_readNumber_8 : decode cX4_readNumber 8 = .ok (.ifCond .gt 5, 3) := by decide +kernel
theorem dX4_readNumber_11 : decode cX4_readNumber 11 = .ok (.iload_n 1, 1) := by decide +kernel
theorem dX4_readNumber_12 : decode cX4_readNumber 12 = .ok (.ireturn, 1) := by decide +kernel
theorem dX4_readNumber_13 : decode cX4_readNumber 13 = .ok (.aload_n 0, 1) := by decide +kernel
theorem dX4_readNumber_14 : decode cX4_readNumber 14 = .ok (.ldc 96, 2) := by decide +kernel
theorem dX4_readNumber_16 : decode cX4_readNumber 16 = .ok (.invokevirtual 98, 3) := by decide +kernel
theorem dX4_readNumber_19 : decode cX4_readNumber 19 = .ok (.istore_n 2, 1) := by decide +kernel
theorem dX4_readNumber_20 : decode cX4_readNumber 20 = .ok (.iload_n 2, 1) := by decide +kernel
theorem dX4_readNumber_21 : decode cX4_readNumber 21 = .ok (.ifCond .ge 7, 3) := by decide +kernel
theorem dX4_readNumber_24 : decode cX4_readNumber 24 = .ok (.iload_n 1, 1) := by decide +kernel
theorem dX4_readNumber_25 : decode cX4_readNumber 25 = .ok (.goto 9, 3) := by decide +kernel
theorem dX4_readNumber_28 : decode cX4_readNumber 28 = .ok (.bipush 10, 2) := by decide +kernel
theorem dX4_readNumber_30 : decode cX4_readNumber 30 = .ok (.iload_n 1, 1) := by decide +kernel
theorem dX4_readNumber_31 : decode cX4_readNumber 31 = .ok (.imul, 1) := by decide +kernel
theorem dX4_readNumber_32 : decode cX4_readNumber 32 = .ok (.iload_n 2, 1) := by decide +kernel
theorem dX4_readNumber_33 : decode cX4_readNumber 33 = .ok (.iadd, 1) := by decide +kernel
theorem dX4_readNumber_34 : decode cX4_readNumber 34 = .ok (.ireturn, 1) := by decide +kernel
theorem dX4_readAny_0 : decode cX4_readAny 0 = .ok (.iconst 0, 1) := by decide +kernel
theorem dX4_readAny_1 : decode cX4_readAny 1 = .ok (.istore_n 2, 1) := by decide +kernel
theorem dX4_readAny_2 : decode cX4_readAny 2 = .ok (.iload_n 2, 1) := by decide +kernel
theorem dX4_readAny_3 : decode cX4_readAny 3 = .ok (.bipush 100, 2) := by decide +kernel
theorem dX4_readAny_5 : decode cX4_readAny 5 = .ok (.if_icmp .ge 39, 3) := by decide +kernel
theorem dX4_readAny_8 : decode cX4_readAny 8 = .ok (.aload_n 0, 1) := by decide +kernel
theorem dX4_readAny_9 : decode cX4_readAny 9 = .ok (.iload_n 1, 1) := by decide +kernel
theorem dX4_readAny_10 : decode cX4_readAny 10 = .ok (.invokevirtual 102, 3) := by decide +kernel
theorem dX4_readAny_13 : decode cX4_readAny 13 = .ok (.ifCond .ne 5, 3) := by decide +kernel
theorem dX4_readAny_16 : decode cX4_readAny 16 = .ok (.iconst 0, 1) := by decide +kernel
theorem dX4_readAny_17 : decode cX4_readAny 17 = .ok (.ireturn, 1) := by decide +kernel
theorem dX4_readAny_18 : decode cX4_readAny 18 = .ok (.iload_n 2, 1) := by decide +kernel
theorem dX4_readAny_19 : decode cX4_readAny 19 = .ok (.ifCond .le 8, 3) := by decide +kernel
theorem dX4_readAny_22 : decode cX4_readAny 22 = .ok (.aload_n 0, 1) := by decide +kernel
theorem dX4_readAny_23 : decode cX4_readAny 23 = .ok (.iconst (-1), 1) := by decide +kernel
theorem dX4_readAny_24 : decode cX4_readAny 24 = .ok (.invokevirtual 105, 3) := by decide +kernel
theorem dX4_readAny_27 : decode cX4_readAny 27 = .ok (.aload_n 0, 1) := by decide +kernel
theorem dX4_readAny_28 : decode cX4_readAny 28 = .ok (.bipush 124, 2) := by decide +kernel
theorem dX4_readAny_30 : decode cX4_readAny 30 = .ok (.invokevirtual 59, 3) := by decide +kernel
theorem dX4_readAny_33 : decode cX4_readAny 33 = .ok (.ifCond .ne 5, 3) := by decide +kernel
theorem dX4_readAny_36 : decode cX4_readAny 36 = .ok (.iconst 1, 1) := by decide +kernel
theorem dX4_readAny_37 : decode cX4_readAny 37 = .ok (.ireturn, 1) := by decide +kernel
theorem dX4_readAny_38 : decode cX4_readAny 38 = .ok (.iinc 2 1, 3) := by decide +kernel
theorem dX4_readAny_41 : decode cX4_readAny 41 = .ok (.goto (-39), 3) := by decide +kernel
theorem dX4_readAny_44 : decode cX4_readAny 44 = .ok (.iconst 0, 1) := by decide +kernel
theorem dX4_readAny_45 : decode cX4_readAny 45 = .ok (.ireturn, 1) := by decide +kernel
theorem dX4_readBoth_0 : decode cX4_readBoth 0 = .ok (.iconst 0, 1) := by decide +kernel
theorem dX4_readBoth_1 : decode cX4_readBoth 1 = .ok (.istore_n 2, 1) := by decide +kernel
theorem dX4_readBoth_2 : decode cX4_readBoth 2 = .ok (.iload_n 2, 1) := by decide +kernel
theorem dX4_readBoth_3 : decode cX4_readBoth 3 = .ok (.bipush 100, 2) := by decide +kernel
theorem dX4_readBoth_5 : decode cX4_readBoth 5 = .ok (.if_icmp .ge 40, 3) := by decide +kernel
theorem dX4_readBoth_8 : decode cX4_readBoth 8 = .ok (.aload_n 0, 1) := by decide +kernel
theorem dX4_readBoth_9 : decode cX4_readBoth 9 = .ok (.iload_n 1, 1) := by decide +kernel
theorem dX4_readBoth_10 : decode cX4_readBoth 10 = .ok (.invokevirtual 108, 3) := by decide +kernel
theorem dX4_readBoth_13 : decode cX4_readBoth 13 = .ok (.ifCond .ne 5, 3) := by decide +kernel
theorem dX4_readBoth_16 : decode cX4_readBoth 16 = .ok (.iconst 0, 1) := by decide +kernel
theorem dX4_readBoth_17 : decode cX4_readBoth 17 = .ok (.ireturn, 1) := by decide +kernel
theorem dX4_readBoth_18 : decode cX4_readBoth 18 = .ok (.iload_n 2, 1) := by decide +kernel
theorem dX4_readBoth_19 : decode cX4_readBoth 19 = .ok (.ifCond .le 9, 3) := by decide +kernel
theorem dX4_readBoth_22 : decode cX4_readBoth 22 = .ok (.aload_n 0, 1) := by decide +kernel
theorem dX4_readBoth_23 : decode cX4_readBoth 23 = .ok (.bipush (-2), 2) := by decide +kernel
theorem dX4_readBoth_25 : decode cX4_readBoth 25 = .ok (.invokevirtual 105, 3) := by decide +kernel
theorem dX4_readBoth_28 : decode cX4_readBoth 28 = .ok (.aload_n 0, 1) := by decide +kernel
theorem dX4_readBoth_29 : decode cX4_readBoth 29 = .ok (.bipush 38, 2) := by decide +kernel
theorem dX4_readBoth_31 : decode cX4_readBoth 31 = .ok (.invokevirtual 59, 3) := by decide +kernel
theorem dX4_readBoth_34 : decode cX4_readBoth 34 = .ok (.ifCond .ne 5, 3) := by decide +kernel
theorem dX4_readBoth_37 : decode cX4_readBoth 37 = .ok (.iconst 1, 1) := by decide +kernel
theorem dX4_readBoth_38 : decode cX4_readBoth 38 = .ok (.ireturn, 1) := by decide +kernel
theorem dX4_readBoth_39 : decode cX4_readBoth 39 = .ok (.iinc 2 1, 3) := by decide +kernel
theorem dX4_readBoth_42 : decode cX4_readBoth 42 = .ok (.goto (-40), 3) := by decide +kernel
theorem dX4_readBoth_45 : decode cX4_readBoth 45 = .ok (.iconst 0, 1) := by decide +kernel
theorem dX4_readBoth_46 : decode cX4_readBoth 46 = .ok (.ireturn, 1) := by decide +kernel
theorem dX4_readFactor_0 : decode cX4_readFactor 0 = .ok (.aload_n 0, 1) := by decide +kernel
theorem dX4_readFactor_1 : decode cX4_readFactor 1 = .ok (.invokevirtual 63, 3) := by decide +kernel
theorem dX4_readFactor_4 : decode cX4_readFactor 4 = .ok (.bipush 33, 2) := by decide +kernel
theorem dX4_readFactor_6 : decode cX4_readFactor 6 = .ok (.if_icmp .eq 17, 3) := by decide +kernel
theorem dX4_readFactor_9 : decode cX4_readFactor 9 = .ok (.aload_n 0, 1) := by decide +kernel
theorem dX4_readFactor_10 : decode cX4_readFactor 10 = .ok (.invokevirtual 63, 3) := by decide +kernel
theorem dX4_readFactor_13 : decode cX4_readFactor 13 = .ok (.bipush 40, 2) := by decide +kernel
theorem dX4_readFactor_15 : decode cX4_readFactor 15 = .ok (.if_icmp .eq 8, 3) := by decide +kernel
theorem dX4_readFactor_18 : decode cX4_readFactor 18 = .ok (.aload_n 0, 1) := by decide +kernel
theorem dX4_readFactor_19 : decode cX4_readFactor 19 = .ok (.invokevirtual 111, 3) := by decide +kernel
theorem dX4_readFactor_22 : decode cX4_readFactor 22 = .ok (.ireturn, 1) := by decide +kernel
theorem dX4_readFactor_23 : decode cX4_readFactor 23 = .ok (.iload_n 1, 1) := by decide +kernel
theorem dX4_readFactor_24 : decode cX4_readFactor 24 = .ok (.iconst 5, 1) := by decide +kernel
theorem dX4_readFactor_25 : decode cX4_readFactor 25 = .ok (.if_icmp .lt 5, 3) := by decide +kernel
theorem dX4_readFactor_28 : decode cX4_readFactor 28 = .ok (.iconst 0, 1) := by decide +kernel
theorem dX4_readFactor_29 : decode cX4_readFactor 29 = .ok (.ireturn, 1) := by decide +kernel
theorem dX4_readFactor_30 : decode cX4_readFactor 30 = .ok (.aload_n 0, 1) := by decide +kernel
theorem dX4_readFactor_31 : decode cX4_readFactor 31 = .ok (.bipush 40, 2) := by decide +kernel
theorem dX4_readFactor_33 : decode cX4_readFactor 33 = .ok (.invokevirtual 59, 3) := by decide +kernel
theorem dX4_readFactor_36 : decode cX4_readFactor 36 = .ok (.ifCond .eq 28, 3) := by decide +kernel
theorem dX4_readFactor_39 : decode cX4_readFactor 39 = .ok (.aload_n 0, 1) := by decide +kernel
theorem dX4_readFactor_40 : decode cX4_readFactor 40 = .ok (.iload_n 1, 1) := by decide +kernel
theorem dX4_readFactor_41 : decode cX4_readFactor 41 = .ok (.iconst 1, 1) := by decide +kernel
theorem dX4_readFactor_42 : decode cX4_readFactor 42 = .ok (.iadd, 1) := by decide +kernel
theorem dX4_readFactor_43 : decode cX4_readFactor 43 = .ok (.invokevirtual 89, 3) := by decide +kernel
theorem dX4_readFactor_46 : decode cX4_readFactor 46 = .ok (.ifCond .eq 16, 3) := by decide +kernel
theorem dX4_readFactor_49 : decode cX4_readFactor 49 = .ok (.aload_n 0, 1) := by decide +kernel
theorem dX4_readFactor_50 : decode cX4_readFactor 50 = .ok (.bipush 41, 2) := by decide +kernel
theorem dX4_readFactor_52 : decode cX4_readFactor 52 = .ok (.invokevirtual 59, 3) := by decide +kernel
theorem dX4_readFactor_55 : decode cX4_readFactor 55 = .ok (.ifCond .eq 7, 3) := by decide +kernel
theorem dX4_readFactor_58 : decode cX4_readFactor 58 = .ok (.iconst 1, 1) := by decide +kernel
theorem dX4_readFactor_59 : decode cX4_readFactor 59 = .ok (.goto 4, 3) := by decide +kernel
theorem dX4_readFactor_62 : decode cX4_readFactor 62 = .ok (.iconst 0, 1) := by decide +kernel
theorem dX4_readFactor_63 : decode cX4_readFactor 63 = .ok (.ireturn, 1) := by decide +kernel
theorem dX4_readFactor_64 : decode cX4_readFactor 64 = .ok (.aload_n 0, 1) := by decide +kernel
theorem dX4_readFactor_65 : decode cX4_readFactor 65 = .ok (.dup, 1) := by decide +kernel
theorem dX4_readFactor_66 : decode cX4_readFactor 66 = .ok (.getfield 43, 3) := by decide +kernel
theorem dX4_readFactor_69 : decode cX4_readFactor 69 = .ok (.iconst 1, 1) := by decide +kernel
theorem dX4_readFactor_70 : decode cX4_readFactor 70 = .ok (.iadd, 1) := by decide +kernel
theorem dX4_readFactor_71 : decode cX4_readFactor 71 = .ok (.putfield 43, 3) := by decide +kernel
theorem dX4_readFactor_74 : decode cX4_readFactor 74 = .ok (.aload_n 0, 1) := by decide +kernel
theorem dX4_readFactor_75 : decode cX4_readFactor 75 = .ok (.iload_n 1, 1) := by decide +kernel
theorem dX4_readFactor_76 : decode cX4_readFactor 76 = .ok (.iconst 1, 1) := by decide +kernel
theorem dX4_readFactor_77 : decode cX4_readFactor 77 = .ok (.iadd, 1) := by decide +kernel
theorem dX4_readFactor_78 : decode cX4_readFactor 78 = .ok (.invokevirtual 108, 3) := by decide +kernel
theorem dX4_readFactor_81 : decode cX4_readFactor 81 = .ok (.ifCond .ne 5, 3) := by decide +kernel
theorem dX4_readFactor_84 : decode cX4_readFactor 84 = .ok (.iconst 0, 1) := by decide +kernel
theorem dX4_readFactor_85 : decode cX4_readFactor 85 = .ok (.ireturn, 1) := by decide +kernel
theorem dX4_readFactor_86 : decode cX4_readFactor 86 = .ok (.aload_n 0, 1) := by decide +kernel
theorem dX4_readFactor_87 : decode cX4_readFactor 87 = .ok (.bipush (-3), 2) := by decide +kernel
theorem dX4_readFactor_89 : decode cX4_readFactor 89 = .ok (.invokevirtual 105, 3) := by decide +kernel
theorem dX4_readFactor_92 : decode cX4_readFactor 92 = .ok (.iconst 1, 1) := by decide +kernel
theorem dX4_readFactor_93 : decode cX4_readFactor 93 = .ok (.ireturn, 1) := by decide +kernel
theorem dX4_readTest_0 : decode cX4_readTest 0 = .ok (.aload_n 0, 1) := by decide +kernel
theorem dX4_readTest_1 : decode cX4_readTest 1 = .ok (.ldc 114, 2) := by decide +kernel
theorem dX4_readTest_3 : decode cX4_readTest 3 = .ok (.invokevirtual 98, 3) := by decide +kernel
theorem dX4_readTest_6 : decode cX4_readTest 6 = .ok (.istore_n 1, 1) := by decide +kernel
theorem dX4_readTest_7 : decode cX4_readTest 7 = .ok (.iload_n 1, 1) := by decide +kernel
theorem dX4_readTest_8 : decode cX4_readTest 8 = .ok (.ifCond .ge 5, 3) := by decide +kernel
theorem dX4_readTest_11 : decode cX4_readTest 11 = .ok (.iconst 0, 1) := by decide +kernel
theorem dX4_readTest_12 : decode cX4_readTest 12 = .ok (.ireturn, 1) := by decide +kernel
theorem dX4_readTest_13 : decode cX4_readTest 13 = .ok (.aload_n 0, 1) := by decide +kernel
theorem dX4_readTest_14 : decode cX4_readTest 14 = .ok (.ldc 116, 2) := by decide +kernel
theorem dX4_readTest_16 : decode cX4_readTest 16 = .ok (.invokevirtual 98, 3) := by decide +kernel
theorem dX4_readTest_19 : decode cX4_readTest 19 = .ok (.istore_n 2, 1) := by decide +kernel
theorem dX4_readTest_20 : decode cX4_readTest 20 = .ok (.iload_n 2, 1) := by decide +kernel
theorem dX4_readTest_21 : decode cX4_readTest 21 = .ok (.ifCond .ge 5, 3) := by decide +kernel
theorem dX4_readTest_24 : decode cX4_readTest 24 = .ok (.iconst 0, 1) := by decide +kernel
theorem dX4_readTest_25 : decode cX4_readTest 25 = .ok (.ireturn, 1) := by decide +kernel
theorem dX4_readTest_26 : decode cX4_readTest 26 = .ok (.aload_n 0, 1) := by decide +kernel
theorem dX4_readTest_27 : decode cX4_readTest 27 = .ok (.invokevirtual 86, 3) := by decide +kernel
theorem dX4_readTest_30 : decode cX4_readTest 30 = .ok (.istore_n 3, 1) := by decide +kernel
theorem dX4_readTest_31 : decode cX4_readTest 31 = .ok (.iload_n 3, 1) := by decide +kernel
theorem dX4_readTest_32 : decode cX4_readTest 32 = .ok (.ifCond .ge 5, 3) := by decide +kernel
theorem dX4_readTest_35 : decode cX4_readTest 35 = .ok (.iconst 0, 1) := by decide +kernel
theorem dX4_readTest_36 : decode cX4_readTest 36 = .ok (.ireturn, 1) := by decide +kernel
theorem dX4_readTest_37 : decode cX4_readTest 37 = .ok (.aload_n 0, 1) := by decide +kernel
theorem dX4_readTest_38 : decode cX4_readTest 38 = .ok (.iload_n 1, 1) := by decide +kernel
theorem dX4_readTest_39 : decode cX4_readTest 39 = .ok (.iconst 3, 1) := by decide +kernel
theorem dX4_readTest_40 : decode cX4_readTest 40 = .ok (.imul, 1) := by decide +kernel
theorem dX4_readTest_41 : decode cX4_readTest 41 = .ok (.iload_n 2, 1) := by decide +kernel
theorem dX4_readTest_42 : decode cX4_readTest 42 = .ok (.iadd, 1) := by decide +kernel
theorem dX4_readTest_43 : decode cX4_readTest 43 = .ok (.bipush 100, 2) := by decide +kernel
theorem dX4_readTest_45 : decode cX4_readTest 45 = .ok (.imul, 1) := by decide +kernel
theorem dX4_readTest_46 : decode cX4_readTest 46 = .ok (.iload_n 3, 1) := by decide +kernel
theorem dX4_readTest_47 : decode cX4_readTest 47 = .ok (.iadd, 1) := by decide +kernel
theorem dX4_readTest_48 : decode cX4_readTest 48 = .ok (.invokevirtual 105, 3) := by decide +kernel
theorem dX4_readTest_51 : decode cX4_readTest 51 = .ok (.iconst 1, 1) := by decide +kernel
theorem dX4_readTest_52 : decode cX4_readTest 52 = .ok (.ireturn, 1) := by decide +kernel
theorem dX4_worth_0 : decode cX4_worth 0 = .ok (.iconst 0, 1) := by decide +kernel
theorem dX4_worth_1 : decode cX4_worth 1 = .ok (.istore_n 2, 1) := by decide +kernel
theorem dX4_worth_2 : decode cX4_worth 2 = .ok (.iconst 0, 1) := by decide +kernel
theorem dX4_worth_3 : decode cX4_worth 3 = .ok (.istore_n 3, 1) := by decide +kernel
theorem dX4_worth_4 : decode cX4_worth 4 = .ok (.iconst 0, 1) := by decide +kernel
theorem dX4_worth_5 : decode cX4_worth 5 = .ok (.istore 4, 2) := by decide +kernel
theorem dX4_worth_7 : decode cX4_worth 7 = .ok (.iload 4, 2) := by decide +kernel
theorem dX4_worth_9 : decode cX4_worth 9 = .ok (.aload_n 0, 1) := by decide +kernel
theorem dX4_worth_10 : decode cX4_worth 10 = .ok (.getfield 49, 3) := by decide +kernel
theorem dX4_worth_13 : decode cX4_worth 13 = .ok (.if_icmp .ge 50, 3) := by decide +kernel
theorem dX4_worth_16 : decode cX4_worth 16 = .ok (.iload 4, 2) := by decide +kernel
theorem dX4_worth_18 : decode cX4_worth 18 = .ok (.bipush 8, 2) := by decide +kernel
theorem dX4_worth_20 : decode cX4_worth 20 = .ok (.if_icmp .ge 43, 3) := by decide +kernel
theorem dX4_worth_23 : decode cX4_worth 23 = .ok (.aload_n 0, 1) := by decide +kernel
theorem dX4_worth_24 : decode cX4_worth 24 = .ok (.iload_n 3, 1) := by decide +kernel
theorem dX4_worth_25 : decode cX4_worth 25 = .ok (.aload_n 0, 1) := by decide +kernel
theorem dX4_worth_26 : decode cX4_worth 26 = .ok (.getfield 21, 3) := by decide +kernel
theorem dX4_worth_29 : decode cX4_worth 29 = .ok (.iload 4, 2) := by decide +kernel
theorem dX4_worth_31 : decode cX4_worth 31 = .ok (.iaload, 1) := by decide +kernel
theorem dX4_worth_32 : decode cX4_worth 32 = .ok (.aload_n 1, 1) := by decide +kernel
theorem dX4_worth_33 : decode cX4_worth 33 = .ok (.invokevirtual 118, 3) := by decide +kernel
theorem dX4_worth_36 : decode cX4_worth 36 = .ok (.ifCond .eq 13, 3) := by decide +kernel
theorem dX4_worth_39 : decode cX4_worth 39 = .ok (.iload_n 2, 1) := by decide +kernel
theorem dX4_worth_40 : decode cX4_worth 40 = .ok (.aload_n 0, 1) := by decide +kernel
theorem dX4_worth_41 : decode cX4_worth 41 = .ok (.getfield 18, 3) := by decide +kernel
theorem dX4_worth_44 : decode cX4_worth 44 = .ok (.iload 4, 2) := by decide +kernel
theorem dX4_worth_46 : decode cX4_worth 46 = .ok (.iaload, 1) := by decide +kernel
theorem dX4_worth_47 : decode cX4_worth 47 = .ok (.iadd, 1) := by decide +kernel
theorem dX4_worth_48 : decode cX4_worth 48 = .ok (.istore_n 2, 1) := by decide +kernel
theorem dX4_worth_49 : decode cX4_worth 49 = .ok (.aload_n 0, 1) := by decide +kernel
theorem dX4_worth_50 : decode cX4_worth 50 = .ok (.getfield 21, 3) := by decide +kernel
theorem dX4_worth_53 : decode cX4_worth 53 = .ok (.iload 4, 2) := by decide +kernel
theorem dX4_worth_55 : decode cX4_worth 55 = .ok (.iaload, 1) := by decide +kernel
theorem dX4_worth_56 : decode cX4_worth 56 = .ok (.istore_n 3, 1) := by decide +kernel
theorem dX4_worth_57 : decode cX4_worth 57 = .ok (.iinc 4 1, 3) := by decide +kernel
theorem dX4_worth_60 : decode cX4_worth 60 = .ok (.goto (-53), 3) := by decide +kernel
theorem dX4_worth_63 : decode cX4_worth 63 = .ok (.iload_n 2, 1) := by decide +kernel
theorem dX4_worth_64 : decode cX4_worth 64 = .ok (.ireturn, 1) := by decide +kernel
theorem dX4_holds_0 : decode cX4_holds 0 = .ok (.iconst 0, 1) := by decide +kernel
theorem dX4_holds_1 : decode cX4_holds 1 = .ok (.istore 4, 2) := by decide +kernel
theorem dX4_holds_3 : decode cX4_holds 3 = .ok (.iload_n 1, 1) := by decide +kernel
theorem dX4_holds_4 : decode cX4_holds 4 = .ok (.iconst 0, 1) := by decide +kernel
theorem dX4_holds_5 : decode cX4_holds 5 = .ok (.invokestatic 30, 3) := by decide +kernel
theorem dX4_holds_8 : decode cX4_holds 8 = .ok (.istore 5, 2) := by decide +kernel
theorem dX4_holds_10 : decode cX4_holds 10 = .ok (.iload 5, 2) := by decide +kernel
theorem dX4_holds_12 : decode cX4_holds 12 = .ok (.iload_n 2, 1) := by decide +kernel
theorem dX4_holds_13 : decode cX4_holds 13 = .ok (.if_icmp .ge 113, 3) := by decide +kernel
theorem dX4_holds_16 : decode cX4_holds 16 = .ok (.iload 5, 2) := by decide +kernel
theorem dX4_holds_18 : decode cX4_holds 18 = .ok (.bipush 100, 2) := by decide +kernel
theorem dX4_holds_20 : decode cX4_holds 20 = .ok (.if_icmp .ge 106, 3) := by decide +kernel
theorem dX4_holds_23 : decode cX4_holds 23 = .ok (.aload_n 0, 1) := by decide +kernel
theorem dX4_holds_24 : decode cX4_holds 24 = .ok (.getfield 15, 3) := by decide +kernel
theorem dX4_holds_27 : decode cX4_holds 27 = .ok (.iload 5, 2) := by decide +kernel
theorem dX4_holds_29 : decode cX4_holds 29 = .ok (.iaload, 1) := by decide +kernel
theorem dX4_holds_30 : decode cX4_holds 30 = .ok (.tableswitch 64 (-3) (-1) #[55, 40, 26], 26) := by decide +kernel
theorem dX4_holds_56 : decode cX4_holds 56 = .ok (.iload 4, 2) := by decide +kernel
theorem dX4_holds_58 : decode cX4_holds 58 = .ok (.iconst 1, 1) := by decide +kernel
theorem dX4_holds_59 : decode cX4_holds 59 = .ok (.iushr, 1) := by decide +kernel
theorem dX4_holds_60 : decode cX4_holds 60 = .ok (.iload 4, 2) := by decide +kernel
theorem dX4_holds_62 : decode cX4_holds 62 = .ok (.iconst 1, 1) := by decide +kernel
theorem dX4_holds_63 : decode cX4_holds 63 = .ok (.iand, 1) := by decide +kernel
theorem dX4_holds_64 : decode cX4_holds 64 = .ok (.ior, 1) := by decide +kernel
theorem dX4_holds_65 : decode cX4_holds 65 = .ok (.istore 4, 2) := by decide +kernel
theorem dX4_holds_67 : decode cX4_holds 67 = .ok (.goto 53, 3) := by decide +kernel
theorem dX4_holds_70 : decode cX4_holds 70 = .ok (.iload 4, 2) := by decide +kernel
theorem dX4_holds_72 : decode cX4_holds 72 = .ok (.iconst 1, 1) := by decide +kernel
theorem dX4_holds_73 : decode cX4_holds 73 = .ok (.iushr, 1) := by decide +kernel
theorem dX4_holds_74 : decode cX4_holds 74 = .ok (.iload 4, 2) := by decide +kernel
theorem dX4_holds_76 : decode cX4_holds 76 = .ok (.bipush (-2), 2) := by decide +kernel
theorem dX4_holds_78 : decode cX4_holds 78 = .ok (.ior, 1) := by decide +kernel
theorem dX4_holds_79 : decode cX4_holds 79 = .ok (.iand, 1) := by decide +kernel
theorem dX4_holds_80 : decode cX4_holds 80 = .ok (.istore 4, 2) := by decide +kernel
theorem dX4_holds_82 : decode cX4_holds 82 = .ok (.goto 38, 3) := by decide +kernel
theorem dX4_holds_85 : decode cX4_holds 85 = .ok (.iload 4, 2) := by decide +kernel
theorem dX4_holds_87 : decode cX4_holds 87 = .ok (.iconst 1, 1) := by decide +kernel
theorem dX4_holds_88 : decode cX4_holds 88 = .ok (.ixor, 1) := by decide +kernel
theorem dX4_holds_89 : decode cX4_holds 89 = .ok (.istore 4, 2) := by decide +kernel
theorem dX4_holds_91 : decode cX4_holds 91 = .ok (.goto 29, 3) := by decide +kernel
theorem dX4_holds_94 : decode cX4_holds 94 = .ok (.iload 4, 2) := by decide +kernel
theorem dX4_holds_96 : decode cX4_holds 96 = .ok (.iconst 1, 1) := by decide +kernel
theorem dX4_holds_97 : decode cX4_holds 97 = .ok (.ishl, 1) := by decide +kernel
theorem dX4_holds_98 : decode cX4_holds 98 = .ok (.aload_n 0, 1) := by decide +kernel
theorem dX4_holds_99 : decode cX4_holds 99 = .ok (.getfield 15, 3) := by decide +kernel
theorem dX4_holds_102 : decode cX4_holds 102 = .ok (.iload 5, 2) := by decide +kernel
theorem dX4_holds_104 : decode cX4_holds 104 = .ok (.iaload, 1) := by decide +kernel
theorem dX4_holds_105 : decode cX4_holds 105 = .ok (.aload_n 3, 1) := by decide +kernel
theorem dX4_holds_106 : decode cX4_holds 106 = .ok (.invokestatic 122, 3) := by decide +kernel
theorem dX4_holds_109 : decode cX4_holds 109 = .ok (.ifCond .eq 7, 3) := by decide +kernel
theorem dX4_holds_112 : decode cX4_holds 112 = .ok (.iconst 1, 1) := by decide +kernel
theorem dX4_holds_113 : decode cX4_holds 113 = .ok (.goto 4, 3) := by decide +kernel
theorem dX4_holds_116 : decode cX4_holds 116 = .ok (.iconst 0, 1) := by decide +kernel
theorem dX4_holds_117 : decode cX4_holds 117 = .ok (.ior, 1) := by decide +kernel
theorem dX4_holds_118 : decode cX4_holds 118 = .ok (.istore 4, 2) := by decide +kernel
theorem dX4_holds_120 : decode cX4_holds 120 = .ok (.iinc 5 1, 3) := by decide +kernel
theorem dX4_holds_123 : decode cX4_holds 123 = .ok (.goto (-113), 3) := by decide +kernel
theorem dX4_holds_126 : decode cX4_holds 126 = .ok (.iload 4, 2) := by decide +kernel
theorem dX4_holds_128 : decode cX4_holds 128 = .ok (.iconst 1, 1) := by decide +kernel
theorem dX4_holds_129 : decode cX4_holds 129 = .ok (.iand, 1) := by decide +kernel
theorem dX4_holds_130 : decode cX4_holds 130 = .ok (.iconst 1, 1) := by decide +kernel
theorem dX4_holds_131 : decode cX4_holds 131 = .ok (.if_icmp .ne 7, 3) := by decide +kernel
theorem dX4_holds_134 : decode cX4_holds 134 = .ok (.iconst 1, 1) := by decide +kernel
theorem dX4_holds_135 : decode cX4_holds 135 = .ok (.goto 4, 3) := by decide +kernel
theorem dX4_holds_138 : decode cX4_holds 138 = .ok (.iconst 0, 1) := by decide +kernel
theorem dX4_holds_139 : decode cX4_holds 139 = .ok (.ireturn, 1) := by decide +kernel
theorem dX4_passes_0 : decode cX4_passes 0 = .ok (.iload_n 0, 1) := by decide +kernel
theorem dX4_passes_1 : decode cX4_passes 1 = .ok (.bipush 100, 2) := by decide +kernel
theorem dX4_passes_3 : decode cX4_passes 3 = .ok (.idiv, 1) := by decide +kernel
theorem dX4_passes_4 : decode cX4_passes 4 = .ok (.iconst 3, 1) := by decide +kernel
theorem dX4_passes_5 : decode cX4_passes 5 = .ok (.idiv, 1) := by decide +kernel
theorem dX4_passes_6 : decode cX4_passes 6 = .ok (.istore_n 2, 1) := by decide +kernel
theorem dX4_passes_7 : decode cX4_passes 7 = .ok (.iload_n 2, 1) := by decide +kernel
theorem dX4_passes_8 : decode cX4_passes 8 = .ok (.ifCond .lt 9, 3) := by decide +kernel
theorem dX4_passes_11 : decode cX4_passes 11 = .ok (.iload_n 2, 1) := by decide +kernel
theorem dX4_passes_12 : decode cX4_passes 12 = .ok (.aload_n 1, 1) := by decide +kernel
theorem dX4_passes_13 : decode cX4_passes 13 = .ok (.arraylength, 1) := by decide +kernel
theorem dX4_passes_14 : decode cX4_passes 14 = .ok (.if_icmp .lt 5, 3) := by decide +kernel
theorem dX4_passes_17 : decode cX4_passes 17 = .ok (.iconst 0, 1) := by decide +kernel
theorem dX4_passes_18 : decode cX4_passes 18 = .ok (.ireturn, 1) := by decide +kernel
theorem dX4_passes_19 : decode cX4_passes 19 = .ok (.iload_n 0, 1) := by decide +kernel
theorem dX4_passes_20 : decode cX4_passes 20 = .ok (.bipush 100, 2) := by decide +kernel
theorem dX4_passes_22 : decode cX4_passes 22 = .ok (.irem, 1) := by decide +kernel
theorem dX4_passes_23 : decode cX4_passes 23 = .ok (.istore_n 3, 1) := by decide +kernel
theorem dX4_passes_24 : decode cX4_passes 24 = .ok (.iload_n 0, 1) := by decide +kernel
theorem dX4_passes_25 : decode cX4_passes 25 = .ok (.bipush 100, 2) := by decide +kernel
theorem dX4_passes_27 : decode cX4_passes 27 = .ok (.idiv, 1) := by decide +kernel
theorem dX4_passes_28 : decode cX4_passes 28 = .ok (.iconst 3, 1) := by decide +kernel
theorem dX4_passes_29 : decode cX4_passes 29 = .ok (.irem, 1) := by decide +kernel
theorem dX4_passes_30 : decode cX4_passes 30 = .ok (.lookupswitch 52 #[(0, 26), (1, 39)], 26) := by decide +kernel
theorem dX4_passes_56 : decode cX4_passes 56 = .ok (.aload_n 1, 1) := by decide +kernel
theorem dX4_passes_57 : decode cX4_passes 57 = .ok (.iload_n 2, 1) := by decide +kernel
theorem dX4_passes_58 : decode cX4_passes 58 = .ok (.iaload, 1) := by decide +kernel
theorem dX4_passes_59 : decode cX4_passes 59 = .ok (.iload_n 3, 1) := by decide +kernel
theorem dX4_passes_60 : decode cX4_passes 60 = .ok (.if_icmp .ge 7, 3) := by decide +kernel
theorem dX4_passes_63 : decode cX4_passes 63 = .ok (.iconst 1, 1) := by decide +kernel
theorem dX4_passes_64 : decode cX4_passes 64 = .ok (.goto 4, 3) := by decide +kernel
theorem dX4_passes_67 : decode cX4_passes 67 = .ok (.iconst 0, 1) := by decide +kernel
theorem dX4_passes_68 : decode cX4_passes 68 = .ok (.ireturn, 1) := by decide +kernel
theorem dX4_passes_69 : decode cX4_passes 69 = .ok (.aload_n 1, 1) := by decide +kernel
theorem dX4_passes_70 : decode cX4_passes 70 = .ok (.iload_n 2, 1) := by decide +kernel
theorem dX4_passes_71 : decode cX4_passes 71 = .ok (.iaload, 1) := by decide +kernel
theorem dX4_passes_72 : decode cX4_passes 72 = .ok (.iload_n 3, 1) := by decide +kernel
theorem dX4_passes_73 : decode cX4_passes 73 = .ok (.if_icmp .ne 7, 3) := by decide +kernel
theorem dX4_passes_76 : decode cX4_passes 76 = .ok (.iconst 1, 1) := by decide +kernel
theorem dX4_passes_77 : decode cX4_passes 77 = .ok (.goto 4, 3) := by decide +kernel
theorem dX4_passes_80 : decode cX4_passes 80 = .ok (.iconst 0, 1) := by decide +kernel
theorem dX4_passes_81 : decode cX4_passes 81 = .ok (.ireturn, 1) := by decide +kernel
theorem dX4_passes_82 : decode cX4_passes 82 = .ok (.aload_n 1, 1) := by decide +kernel
theorem dX4_passes_83 : decode cX4_passes 83 = .ok (.iload_n 2, 1) := by decide +kernel
theorem dX4_passes_84 : decode cX4_passes 84 = .ok (.iaload, 1) := by decide +kernel
theorem dX4_passes_85 : decode cX4_passes 85 = .ok (.iload_n 3, 1) := by decide +kernel
theorem dX4_passes_86 : decode cX4_passes 86 = .ok (.if_icmp .le 7, 3) := by decide +kernel
theorem dX4_passes_89 : decode cX4_passes 89 = .ok (.iconst 1, 1) := by decide +kernel
theorem dX4_passes_90 : decode cX4_passes 90 = .ok (.goto 4, 3) := by decide +kernel
theorem dX4_passes_93 : decode cX4_passes 93 = .ok (.iconst 0, 1) := by decide +kernel
theorem dX4_passes_94 : decode cX4_passes 94 = .ok (.ireturn, 1) := by decide +kernel
end CDC
