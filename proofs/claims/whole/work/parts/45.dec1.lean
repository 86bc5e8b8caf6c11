theorem d_La_law_181 : decode b_La_law 181 = .ok (.aload_n 3, 1) := by decide +kernel
theorem d_La_law_182 : decode b_La_law 182 = .ok (.iconst 0, 1) := by decide +kernel
theorem d_La_law_183 : decode b_La_law 183 = .ok (.laload, 1) := by decide +kernel
theorem d_La_law_184 : decode b_La_law 184 = .ok (.iload 6, 2) := by decide +kernel
theorem d_La_law_186 : decode b_La_law 186 = .ok (.i2l, 1) := by decide +kernel
theorem d_La_law_187 : decode b_La_law 187 = .ok (.lcmp, 1) := by decide +kernel
theorem d_La_law_188 : decode b_La_law 188 = .ok (.ifCond .eq 5, 3) := by decide +kernel
theorem d_La_law_191 : decode b_La_law 191 = .ok (.iconst 0, 1) := by decide +kernel
theorem d_La_law_192 : decode b_La_law 192 = .ok (.ireturn, 1) := by decide +kernel
theorem d_La_law_193 : decode b_La_law 193 = .ok (.goto 913, 3) := by decide +kernel
theorem d_La_law_196 : decode b_La_law 196 = .ok (.aload_n 1, 1) := by decide +kernel
theorem d_La_law_197 : decode b_La_law 197 = .ok (.aload_n 0, 1) := by decide +kernel
theorem d_La_law_198 : decode b_La_law 198 = .ok (.iload 4, 2) := by decide +kernel
theorem d_La_law_200 : decode b_La_law 200 = .ok (.iconst 1, 1) := by decide +kernel
theorem d_La_law_201 : decode b_La_law 201 = .ok (.iadd, 1) := by decide +kernel
theorem d_La_law_202 : decode b_La_law 202 = .ok (.iaload, 1) := by decide +kernel
theorem d_La_law_203 : decode b_La_law 203 = .ok (.aload_n 0, 1) := by decide +kernel
theorem d_La_law_204 : decode b_La_law 204 = .ok (.iload 4, 2) := by decide +kernel
theorem d_La_law_206 : decode b_La_law 206 = .ok (.iconst 2, 1) := by decide +kernel
theorem d_La_law_207 : decode b_La_law 207 = .ok (.iadd, 1) := by decide +kernel
theorem d_La_law_208 : decode b_La_law 208 = .ok (.iaload, 1) := by decide +kernel
theorem d_La_law_209 : decode b_La_law 209 = .ok (.aload_n 0, 1) := by decide +kernel
theorem d_La_law_210 : decode b_La_law 210 = .ok (.iload 4, 2) := by decide +kernel
theorem d_La_law_212 : decode b_La_law 212 = .ok (.iconst 3, 1) := by decide +kernel
theorem d_La_law_213 : decode b_La_law 213 = .ok (.iadd, 1) := by decide +kernel
theorem d_La_law_214 : decode b_La_law 214 = .ok (.iaload, 1) := by decide +kernel
theorem d_La_law_215 : decode b_La_law 215 = .ok (.aload_n 3, 1) := by decide +kernel
theorem d_La_law_216 : decode b_La_law 216 = .ok (.invokestatic 77, 3) := by decide +kernel
theorem d_La_law_219 : decode b_La_law 219 = .ok (.istore 5, 2) := by decide +kernel
theorem d_La_law_221 : decode b_La_law 221 = .ok (.aload_n 2, 1) := by decide +kernel
theorem d_La_law_222 : decode b_La_law 222 = .ok (.aload_n 0, 1) := by decide +kernel
theorem d_La_law_223 : decode b_La_law 223 = .ok (.iload 4, 2) := by decide +kernel
theorem d_La_law_225 : decode b_La_law 225 = .ok (.iconst 1, 1) := by decide +kernel
theorem d_La_law_226 : decode b_La_law 226 = .ok (.iadd, 1) := by decide +kernel
theorem d_La_law_227 : decode b_La_law 227 = .ok (.iaload, 1) := by decide +kernel
theorem d_La_law_228 : decode b_La_law 228 = .ok (.aload_n 0, 1) := by decide +kernel
theorem d_La_law_229 : decode b_La_law 229 = .ok (.iload 4, 2) := by decide +kernel
theorem d_La_law_231 : decode b_La_law 231 = .ok (.iconst 2, 1) := by decide +kernel
theorem d_La_law_232 : decode b_La_law 232 = .ok (.iadd, 1) := by decide +kernel
theorem d_La_law_233 : decode b_La_law 233 = .ok (.iaload, 1) := by decide +kernel
theorem d_La_law_234 : decode b_La_law 234 = .ok (.aload_n 0, 1) := by decide +kernel
theorem d_La_law_235 : decode b_La_law 235 = .ok (.iload 4, 2) := by decide +kernel
theorem d_La_law_237 : decode b_La_law 237 = .ok (.iconst 3, 1) := by decide +kernel
theorem d_La_law_238 : decode b_La_law 238 = .ok (.iadd, 1) := by decide +kernel
theorem d_La_law_239 : decode b_La_law 239 = .ok (.iaload, 1) := by decide +kernel
theorem d_La_law_240 : decode b_La_law 240 = .ok (.invokevirtual 80, 3) := by decide +kernel
theorem d_La_law_243 : decode b_La_law 243 = .ok (.istore 6, 2) := by decide +kernel
theorem d_La_law_245 : decode b_La_law 245 = .ok (.aload_n 2, 1) := by decide +kernel
theorem d_La_law_246 : decode b_La_law 246 = .ok (.invokevirtual 74, 3) := by decide +kernel
theorem d_La_law_249 : decode b_La_law 249 = .ok (.iload 5, 2) := by decide +kernel
theorem d_La_law_251 : decode b_La_law 251 = .ok (.if_icmp .eq 5, 3) := by decide +kernel
theorem d_La_law_254 : decode b_La_law 254 = .ok (.iconst 0, 1) := by decide +kernel
theorem d_La_law_255 : decode b_La_law 255 = .ok (.ireturn, 1) := by decide +kernel
theorem d_La_law_256 : decode b_La_law 256 = .ok (.iload 5, 2) := by decide +kernel
theorem d_La_law_258 : decode b_La_law 258 = .ok (.ifCond .ne 15, 3) := by decide +kernel
theorem d_La_law_261 : decode b_La_law 261 = .ok (.aload_n 3, 1) := by decide +kernel
theorem d_La_law_262 : decode b_La_law 262 = .ok (.iconst 0, 1) := by decide +kernel
theorem d_La_law_263 : decode b_La_law 263 = .ok (.laload, 1) := by decide +kernel
theorem d_La_law_264 : decode b_La_law 264 = .ok (.iload 6, 2) := by decide +kernel
theorem d_La_law_266 : decode b_La_law 266 = .ok (.i2l, 1) := by decide +kernel
