theorem d_Q_law_0 : decode code 0 = .ok (.new 8, 3) := by decide +kernel
theorem d_Q_law_3 : decode code 3 = .ok (.dup, 1) := by decide +kernel
theorem d_Q_law_4 : decode code 4 = .ok (.aload_n 0, 1) := by decide +kernel
theorem d_Q_law_5 : decode code 5 = .ok (.iconst 0, 1) := by decide +kernel
theorem d_Q_law_6 : decode code 6 = .ok (.invokestatic 56, 3) := by decide +kernel
theorem d_Q_law_9 : decode code 9 = .ok (.aload_n 0, 1) := by decide +kernel
theorem d_Q_law_10 : decode code 10 = .ok (.iconst 1, 1) := by decide +kernel
theorem d_Q_law_11 : decode code 11 = .ok (.invokestatic 56, 3) := by decide +kernel
theorem d_Q_law_14 : decode code 14 = .ok (.aload_n 0, 1) := by decide +kernel
theorem d_Q_law_15 : decode code 15 = .ok (.iconst 2, 1) := by decide +kernel
theorem d_Q_law_16 : decode code 16 = .ok (.invokestatic 56, 3) := by decide +kernel
theorem d_Q_law_19 : decode code 19 = .ok (.aload_n 0, 1) := by decide +kernel
theorem d_Q_law_20 : decode code 20 = .ok (.iconst 3, 1) := by decide +kernel
theorem d_Q_law_21 : decode code 21 = .ok (.invokestatic 56, 3) := by decide +kernel
theorem d_Q_law_24 : decode code 24 = .ok (.invokespecial 62, 3) := by decide +kernel
theorem d_Q_law_27 : decode code 27 = .ok (.astore_n 1, 1) := by decide +kernel
theorem d_Q_law_28 : decode code 28 = .ok (.new 65, 3) := by decide +kernel
theorem d_Q_law_31 : decode code 31 = .ok (.dup, 1) := by decide +kernel
theorem d_Q_law_32 : decode code 32 = .ok (.aload_n 0, 1) := by decide +kernel
theorem d_Q_law_33 : decode code 33 = .ok (.iconst 0, 1) := by decide +kernel
theorem d_Q_law_34 : decode code 34 = .ok (.invokestatic 56, 3) := by decide +kernel
theorem d_Q_law_37 : decode code 37 = .ok (.aload_n 0, 1) := by decide +kernel
theorem d_Q_law_38 : decode code 38 = .ok (.iconst 1, 1) := by decide +kernel
theorem d_Q_law_39 : decode code 39 = .ok (.invokestatic 56, 3) := by decide +kernel
theorem d_Q_law_42 : decode code 42 = .ok (.aload_n 0, 1) := by decide +kernel
theorem d_Q_law_43 : decode code 43 = .ok (.iconst 2, 1) := by decide +kernel
theorem d_Q_law_44 : decode code 44 = .ok (.invokestatic 56, 3) := by decide +kernel
theorem d_Q_law_47 : decode code 47 = .ok (.aload_n 0, 1) := by decide +kernel
theorem d_Q_law_48 : decode code 48 = .ok (.iconst 3, 1) := by decide +kernel
theorem d_Q_law_49 : decode code 49 = .ok (.invokestatic 56, 3) := by decide +kernel
theorem d_Q_law_52 : decode code 52 = .ok (.invokespecial 67, 3) := by decide +kernel
theorem d_Q_law_55 : decode code 55 = .ok (.astore_n 2, 1) := by decide +kernel
theorem d_Q_law_56 : decode code 56 = .ok (.iconst 1, 1) := by decide +kernel
theorem d_Q_law_57 : decode code 57 = .ok (.newarray .long, 2) := by decide +kernel
theorem d_Q_law_59 : decode code 59 = .ok (.astore_n 3, 1) := by decide +kernel
theorem d_Q_law_60 : decode code 60 = .ok (.iconst 4, 1) := by decide +kernel
theorem d_Q_law_61 : decode code 61 = .ok (.istore 4, 2) := by decide +kernel
theorem d_Q_law_63 : decode code 63 = .ok (.iload 4, 2) := by decide +kernel
theorem d_Q_law_65 : decode code 65 = .ok (.aload_n 0, 1) := by decide +kernel
theorem d_Q_law_66 : decode code 66 = .ok (.arraylength, 1) := by decide +kernel
theorem d_Q_law_67 : decode code 67 = .ok (.iconst 4, 1) := by decide +kernel
theorem d_Q_law_68 : decode code 68 = .ok (.isub, 1) := by decide +kernel
theorem d_Q_law_69 : decode code 69 = .ok (.if_icmp .gt 946, 3) := by decide +kernel
theorem d_Q_law_72 : decode code 72 = .ok (.aload_n 0, 1) := by decide +kernel
theorem d_Q_law_73 : decode code 73 = .ok (.iload 4, 2) := by decide +kernel
theorem d_Q_law_75 : decode code 75 = .ok (.iaload, 1) := by decide +kernel
theorem d_Q_law_76 : decode code 76 = .ok (.bipush 31, 2) := by decide +kernel
theorem d_Q_law_78 : decode code 78 = .ok (.iand, 1) := by decide +kernel
theorem d_Q_law_79 : decode code 79 = .ok (.tableswitch 930 0 16 #[81, 161, 198, 211, 224, 292, 348, 403, 459, 522, 578, 634, 690, 758, 826, 894, 919], 81) := by decide +kernel
theorem d_Q_law_160 : decode code 160 = .ok (.aload_n 1, 1) := by decide +kernel
theorem d_Q_law_161 : decode code 161 = .ok (.aload_n 0, 1) := by decide +kernel
theorem d_Q_law_162 : decode code 162 = .ok (.iload 4, 2) := by decide +kernel
theorem d_Q_law_164 : decode code 164 = .ok (.iconst 1, 1) := by decide +kernel
theorem d_Q_law_165 : decode code 165 = .ok (.iadd, 1) := by decide +kernel
theorem d_Q_law_166 : decode code 166 = .ok (.iaload, 1) := by decide +kernel
theorem d_Q_law_167 : decode code 167 = .ok (.aload_n 0, 1) := by decide +kernel
theorem d_Q_law_168 : decode code 168 = .ok (.iload 4, 2) := by decide +kernel
theorem d_Q_law_170 : decode code 170 = .ok (.iconst 2, 1) := by decide +kernel
theorem d_Q_law_171 : decode code 171 = .ok (.iadd, 1) := by decide +kernel
theorem d_Q_law_172 : decode code 172 = .ok (.iaload, 1) := by decide +kernel
theorem d_Q_law_173 : decode code 173 = .ok (.aload_n 0, 1) := by decide +kernel
theorem d_Q_law_174 : decode code 174 = .ok (.iload 4, 2) := by decide +kernel
theorem d_Q_law_176 : decode code 176 = .ok (.iconst 3, 1) := by decide +kernel
theorem d_Q_law_177 : decode code 177 = .ok (.iadd, 1) := by decide +kernel
theorem d_Q_law_178 : decode code 178 = .ok (.iaload, 1) := by decide +kernel
theorem d_Q_law_179 : decode code 179 = .ok (.aload_n 3, 1) := by decide +kernel
theorem d_Q_law_180 : decode code 180 = .ok (.invokestatic 68, 3) := by decide +kernel
theorem d_Q_law_183 : decode code 183 = .ok (.istore 5, 2) := by decide +kernel
theorem d_Q_law_185 : decode code 185 = .ok (.aload_n 2, 1) := by decide +kernel
theorem d_Q_law_186 : decode code 186 = .ok (.aload_n 0, 1) := by decide +kernel
theorem d_Q_law_187 : decode code 187 = .ok (.iload 4, 2) := by decide +kernel
theorem d_Q_law_189 : decode code 189 = .ok (.iconst 1, 1) := by decide +kernel
theorem d_Q_law_190 : decode code 190 = .ok (.iadd, 1) := by decide +kernel
theorem d_Q_law_191 : decode code 191 = .ok (.iaload, 1) := by decide +kernel
theorem d_Q_law_192 : decode code 192 = .ok (.aload_n 0, 1) := by decide +kernel
theorem d_Q_law_193 : decode code 193 = .ok (.iload 4, 2) := by decide +kernel
theorem d_Q_law_195 : decode code 195 = .ok (.iconst 2, 1) := by decide +kernel
theorem d_Q_law_196 : decode code 196 = .ok (.iadd, 1) := by decide +kernel
theorem d_Q_law_197 : decode code 197 = .ok (.iaload, 1) := by decide +kernel
theorem d_Q_law_198 : decode code 198 = .ok (.aload_n 0, 1) := by decide +kernel
theorem d_Q_law_199 : decode code 199 = .ok (.iload 4, 2) := by decide +kernel
theorem d_Q_law_201 : decode code 201 = .ok (.iconst 3, 1) := by decide +kernel
theorem d_Q_law_202 : decode code 202 = .ok (.iadd, 1) := by decide +kernel
theorem d_Q_law_203 : decode code 203 = .ok (.iaload, 1) := by decide +kernel
theorem d_Q_law_204 : decode code 204 = .ok (.invokevirtual 71, 3) := by decide +kernel
theorem d_Q_law_207 : decode code 207 = .ok (.istore 6, 2) := by decide +kernel
theorem d_Q_law_209 : decode code 209 = .ok (.aload_n 2, 1) := by decide +kernel
theorem d_Q_law_210 : decode code 210 = .ok (.invokevirtual 72, 3) := by decide +kernel
theorem d_Q_law_213 : decode code 213 = .ok (.iload 5, 2) := by decide +kernel
theorem d_Q_law_215 : decode code 215 = .ok (.if_icmp .eq 5, 3) := by decide +kernel
theorem d_Q_law_218 : decode code 218 = .ok (.iconst 0, 1) := by decide +kernel
theorem d_Q_law_219 : decode code 219 = .ok (.ireturn, 1) := by decide +kernel
theorem d_Q_law_220 : decode code 220 = .ok (.iload 5, 2) := by decide +kernel
theorem d_Q_law_222 : decode code 222 = .ok (.ifCond .ne 15, 3) := by decide +kernel
theorem d_Q_law_225 : decode code 225 = .ok (.aload_n 3, 1) := by decide +kernel
theorem d_Q_law_226 : decode code 226 = .ok (.iconst 0, 1) := by decide +kernel
theorem d_Q_law_227 : decode code 227 = .ok (.laload, 1) := by decide +kernel
theorem d_Q_law_228 : decode code 228 = .ok (.iload 6, 2) := by decide +kernel
theorem d_Q_law_230 : decode code 230 = .ok (.i2l, 1) := by decide +kernel
theorem d_Q_law_231 : decode code 231 = .ok (.lcmp, 1) := by decide +kernel
theorem d_Q_law_232 : decode code 232 = .ok (.ifCond .eq 5, 3) := by decide +kernel
theorem d_Q_law_235 : decode code 235 = .ok (.iconst 0, 1) := by decide +kernel
theorem d_Q_law_236 : decode code 236 = .ok (.ireturn, 1) := by decide +kernel
theorem d_Q_law_237 : decode code 237 = .ok (.goto 772, 3) := by decide +kernel
theorem d_Q_law_240 : decode code 240 = .ok (.aload_n 1, 1) := by decide +kernel
theorem d_Q_law_241 : decode code 241 = .ok (.aload_n 0, 1) := by decide +kernel
theorem d_Q_law_242 : decode code 242 = .ok (.iload 4, 2) := by decide +kernel
theorem d_Q_law_244 : decode code 244 = .ok (.iconst 1, 1) := by decide +kernel
theorem d_Q_law_245 : decode code 245 = .ok (.iadd, 1) := by decide +kernel
theorem d_Q_law_246 : decode code 246 = .ok (.iaload, 1) := by decide +kernel
theorem d_Q_law_247 : decode code 247 = .ok (.aload_n 0, 1) := by decide +kernel
theorem d_Q_law_248 : decode code 248 = .ok (.iload 4, 2) := by decide +kernel
theorem d_Q_law_250 : decode code 250 = .ok (.iconst 2, 1) := by decide +kernel
theorem d_Q_law_251 : decode code 251 = .ok (.iadd, 1) := by decide +kernel
theorem d_Q_law_252 : decode code 252 = .ok (.iaload, 1) := by decide +kernel
theorem d_Q_law_253 : decode code 253 = .ok (.invokevirtual 76, 3) := by decide +kernel
theorem d_Q_law_256 : decode code 256 = .ok (.aload_n 2, 1) := by decide +kernel
theorem d_Q_law_257 : decode code 257 = .ok (.aload_n 0, 1) := by decide +kernel
theorem d_Q_law_258 : decode code 258 = .ok (.iload 4, 2) := by decide +kernel
theorem d_Q_law_260 : decode code 260 = .ok (.iconst 1, 1) := by decide +kernel
theorem d_Q_law_261 : decode code 261 = .ok (.iadd, 1) := by decide +kernel
theorem d_Q_law_262 : decode code 262 = .ok (.iaload, 1) := by decide +kernel
theorem d_Q_law_263 : decode code 263 = .ok (.aload_n 0, 1) := by decide +kernel
theorem d_Q_law_264 : decode code 264 = .ok (.iload 4, 2) := by decide +kernel
theorem d_Q_law_266 : decode code 266 = .ok (.iconst 2, 1) := by decide +kernel
theorem d_Q_law_267 : decode code 267 = .ok (.iadd, 1) := by decide +kernel
theorem d_Q_law_268 : decode code 268 = .ok (.iaload, 1) := by decide +kernel
theorem d_Q_law_269 : decode code 269 = .ok (.invokevirtual 79, 3) := by decide +kernel
theorem d_Q_law_272 : decode code 272 = .ok (.if_icmp .eq 737, 3) := by decide +kernel
theorem d_Q_law_275 : decode code 275 = .ok (.iconst 0, 1) := by decide +kernel
theorem d_Q_law_276 : decode code 276 = .ok (.ireturn, 1) := by decide +kernel
theorem d_Q_law_277 : decode code 277 = .ok (.aload_n 1, 1) := by decide +kernel
theorem d_Q_law_278 : decode code 278 = .ok (.invokevirtual 80, 3) := by decide +kernel
theorem d_Q_law_281 : decode code 281 = .ok (.aload_n 2, 1) := by decide +kernel
theorem d_Q_law_282 : decode code 282 = .ok (.invokevirtual 83, 3) := by decide +kernel
theorem d_Q_law_285 : decode code 285 = .ok (.if_icmp .eq 724, 3) := by decide +kernel
theorem d_Q_law_288 : decode code 288 = .ok (.iconst 0, 1) := by decide +kernel
theorem d_Q_law_289 : decode code 289 = .ok (.ireturn, 1) := by decide +kernel
theorem d_Q_law_290 : decode code 290 = .ok (.aload_n 1, 1) := by decide +kernel
theorem d_Q_law_291 : decode code 291 = .ok (.invokevirtual 84, 3) := by decide +kernel
