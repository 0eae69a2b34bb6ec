theorem d_law_172 : decode code 172 = .ok (.invokevirtual 96, 3) := by decide +kernel
theorem d_law_175 : decode code 175 = .ok (.istore 6, 2) := by decide +kernel
theorem d_law_177 : decode code 177 = .ok (.aload_n 2, 1) := by decide +kernel
theorem d_law_178 : decode code 178 = .ok (.invokevirtual 97, 3) := by decide +kernel
theorem d_law_181 : decode code 181 = .ok (.iload 5, 2) := by decide +kernel
theorem d_law_183 : decode code 183 = .ok (.if_icmp .eq 5, 3) := by decide +kernel
theorem d_law_188 : decode code 188 = .ok (.iload 5, 2) := by decide +kernel
theorem d_law_190 : decode code 190 = .ok (.ifCond .ne 15, 3) := by decide +kernel
theorem d_law_193 : decode code 193 = .ok (.aload_n 3, 1) := by decide +kernel
theorem d_law_194 : decode code 194 = .ok (.iconst 0, 1) := by decide +kernel
theorem d_law_195 : decode code 195 = .ok (.laload, 1) := by decide +kernel
theorem d_law_196 : decode code 196 = .ok (.iload 6, 2) := by decide +kernel
theorem d_law_198 : decode code 198 = .ok (.i2l, 1) := by decide +kernel
theorem d_law_199 : decode code 199 = .ok (.lcmp, 1) := by decide +kernel
theorem d_law_200 : decode code 200 = .ok (.ifCond .eq 5, 3) := by decide +kernel
theorem d_law_205 : decode code 205 = .ok (.goto 1432, 3) := by decide +kernel
theorem d_law_208 : decode code 208 = .ok (.aload_n 1, 1) := by decide +kernel
theorem d_law_209 : decode code 209 = .ok (.aload_n 3, 1) := by decide +kernel
theorem d_law_210 : decode code 210 = .ok (.invokestatic 100, 3) := by decide +kernel
theorem d_law_213 : decode code 213 = .ok (.istore 5, 2) := by decide +kernel
theorem d_law_215 : decode code 215 = .ok (.aload_n 2, 1) := by decide +kernel
theorem d_law_216 : decode code 216 = .ok (.invokevirtual 103, 3) := by decide +kernel
theorem d_law_219 : decode code 219 = .ok (.istore 6, 2) := by decide +kernel
theorem d_law_221 : decode code 221 = .ok (.aload_n 2, 1) := by decide +kernel
theorem d_law_222 : decode code 222 = .ok (.invokevirtual 97, 3) := by decide +kernel
theorem d_law_225 : decode code 225 = .ok (.iload 5, 2) := by decide +kernel
theorem d_law_227 : decode code 227 = .ok (.if_icmp .eq 5, 3) := by decide +kernel
theorem d_law_232 : decode code 232 = .ok (.iload 5, 2) := by decide +kernel
theorem d_law_234 : decode code 234 = .ok (.ifCond .ne 22, 3) := by decide +kernel
theorem d_law_237 : decode code 237 = .ok (.aload_n 3, 1) := by decide +kernel
theorem d_law_238 : decode code 238 = .ok (.iconst 0, 1) := by decide +kernel
theorem d_law_239 : decode code 239 = .ok (.laload, 1) := by decide +kernel
theorem d_law_240 : decode code 240 = .ok (.iload 6, 2) := by decide +kernel
theorem d_law_242 : decode code 242 = .ok (.ifCond .eq 7, 3) := by decide +kernel
theorem d_law_245 : decode code 245 = .ok (.lconst 1, 1) := by decide +kernel
theorem d_law_246 : decode code 246 = .ok (.goto 4, 3) := by decide +kernel
theorem d_law_249 : decode code 249 = .ok (.lconst 0, 1) := by decide +kernel
theorem d_law_250 : decode code 250 = .ok (.lcmp, 1) := by decide +kernel
theorem d_law_251 : decode code 251 = .ok (.ifCond .eq 5, 3) := by decide +kernel
theorem d_law_256 : decode code 256 = .ok (.goto 1381, 3) := by decide +kernel
theorem d_law_259 : decode code 259 = .ok (.aload_n 1, 1) := by decide +kernel
theorem d_law_260 : decode code 260 = .ok (.aload_n 0, 1) := by decide +kernel
theorem d_law_261 : decode code 261 = .ok (.iload 4, 2) := by decide +kernel
theorem d_law_263 : decode code 263 = .ok (.iconst 1, 1) := by decide +kernel
theorem d_law_264 : decode code 264 = .ok (.iadd, 1) := by decide +kernel
theorem d_law_265 : decode code 265 = .ok (.iaload, 1) := by decide +kernel
theorem d_law_266 : decode code 266 = .ok (.aload_n 0, 1) := by decide +kernel
theorem d_law_267 : decode code 267 = .ok (.iload 4, 2) := by decide +kernel
theorem d_law_269 : decode code 269 = .ok (.iconst 2, 1) := by decide +kernel
theorem d_law_270 : decode code 270 = .ok (.iadd, 1) := by decide +kernel
