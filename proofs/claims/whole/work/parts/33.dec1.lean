theorem d_law_180 : decode code 180 = .ok (.iaload, 1) := by decide +kernel
theorem d_law_181 : decode code 181 = .ok (.invokevirtual 45, 3) := by decide +kernel
theorem d_law_184 : decode code 184 = .ok (.istore 6, 2) := by decide +kernel
theorem d_law_186 : decode code 186 = .ok (.aload_n 2, 1) := by decide +kernel
theorem d_law_187 : decode code 187 = .ok (.invokevirtual 46, 3) := by decide +kernel
theorem d_law_190 : decode code 190 = .ok (.iload 5, 2) := by decide +kernel
theorem d_law_192 : decode code 192 = .ok (.if_icmp .eq 5, 3) := by decide +kernel
theorem d_law_195 : decode code 195 = .ok (.iconst 0, 1) := by decide +kernel
theorem d_law_196 : decode code 196 = .ok (.ireturn, 1) := by decide +kernel
theorem d_law_197 : decode code 197 = .ok (.iload 5, 2) := by decide +kernel
theorem d_law_199 : decode code 199 = .ok (.ifCond .ne 15, 3) := by decide +kernel
theorem d_law_202 : decode code 202 = .ok (.aload_n 3, 1) := by decide +kernel
theorem d_law_203 : decode code 203 = .ok (.iconst 0, 1) := by decide +kernel
theorem d_law_204 : decode code 204 = .ok (.laload, 1) := by decide +kernel
theorem d_law_205 : decode code 205 = .ok (.iload 6, 2) := by decide +kernel
theorem d_law_207 : decode code 207 = .ok (.i2l, 1) := by decide +kernel
theorem d_law_208 : decode code 208 = .ok (.lcmp, 1) := by decide +kernel
theorem d_law_209 : decode code 209 = .ok (.ifCond .eq 5, 3) := by decide +kernel
theorem d_law_212 : decode code 212 = .ok (.iconst 0, 1) := by decide +kernel
theorem d_law_213 : decode code 213 = .ok (.ireturn, 1) := by decide +kernel
theorem d_law_214 : decode code 214 = .ok (.goto 356, 3) := by decide +kernel
theorem d_law_217 : decode code 217 = .ok (.aload_n 1, 1) := by decide +kernel
theorem d_law_218 : decode code 218 = .ok (.invokevirtual 50, 3) := by decide +kernel
theorem d_law_221 : decode code 221 = .ok (.aload_n 2, 1) := by decide +kernel
theorem d_law_222 : decode code 222 = .ok (.invokevirtual 53, 3) := by decide +kernel
theorem d_law_225 : decode code 225 = .ok (.if_icmp .eq 345, 3) := by decide +kernel
theorem d_law_228 : decode code 228 = .ok (.iconst 0, 1) := by decide +kernel
theorem d_law_229 : decode code 229 = .ok (.ireturn, 1) := by decide +kernel
theorem d_law_230 : decode code 230 = .ok (.aload_n 1, 1) := by decide +kernel
theorem d_law_231 : decode code 231 = .ok (.aload_n 0, 1) := by decide +kernel
theorem d_law_232 : decode code 232 = .ok (.iload 4, 2) := by decide +kernel
theorem d_law_234 : decode code 234 = .ok (.iconst 1, 1) := by decide +kernel
theorem d_law_235 : decode code 235 = .ok (.iadd, 1) := by decide +kernel
theorem d_law_236 : decode code 236 = .ok (.iaload, 1) := by decide +kernel
theorem d_law_237 : decode code 237 = .ok (.invokevirtual 54, 3) := by decide +kernel
theorem d_law_240 : decode code 240 = .ok (.aload_n 2, 1) := by decide +kernel
theorem d_law_241 : decode code 241 = .ok (.aload_n 0, 1) := by decide +kernel
theorem d_law_242 : decode code 242 = .ok (.iload 4, 2) := by decide +kernel
theorem d_law_244 : decode code 244 = .ok (.iconst 1, 1) := by decide +kernel
theorem d_law_245 : decode code 245 = .ok (.iadd, 1) := by decide +kernel
theorem d_law_246 : decode code 246 = .ok (.iaload, 1) := by decide +kernel
theorem d_law_247 : decode code 247 = .ok (.invokevirtual 58, 3) := by decide +kernel
theorem d_law_250 : decode code 250 = .ok (.if_icmp .eq 320, 3) := by decide +kernel
theorem d_law_253 : decode code 253 = .ok (.iconst 0, 1) := by decide +kernel
theorem d_law_254 : decode code 254 = .ok (.ireturn, 1) := by decide +kernel
theorem d_law_255 : decode code 255 = .ok (.aload_n 1, 1) := by decide +kernel
theorem d_law_256 : decode code 256 = .ok (.aload_n 0, 1) := by decide +kernel
theorem d_law_257 : decode code 257 = .ok (.iload 4, 2) := by decide +kernel
theorem d_law_259 : decode code 259 = .ok (.iconst 1, 1) := by decide +kernel
theorem d_law_260 : decode code 260 = .ok (.iadd, 1) := by decide +kernel
theorem d_law_261 : decode code 261 = .ok (.iaload, 1) := by decide +kernel
theorem d_law_262 : decode code 262 = .ok (.aload_n 0, 1) := by decide +kernel
theorem d_law_263 : decode code 263 = .ok (.iload 4, 2) := by decide +kernel
theorem d_law_265 : decode code 265 = .ok (.iconst 2, 1) := by decide +kernel
theorem d_law_266 : decode code 266 = .ok (.iadd, 1) := by decide +kernel
theorem d_law_267 : decode code 267 = .ok (.iaload, 1) := by decide +kernel
theorem d_law_268 : decode code 268 = .ok (.aload_n 3, 1) := by decide +kernel
theorem d_law_269 : decode code 269 = .ok (.invokestatic 59, 3) := by decide +kernel
theorem d_law_272 : decode code 272 = .ok (.istore 5, 2) := by decide +kernel
theorem d_law_274 : decode code 274 = .ok (.aload_n 2, 1) := by decide +kernel
theorem d_law_275 : decode code 275 = .ok (.aload_n 0, 1) := by decide +kernel
theorem d_law_276 : decode code 276 = .ok (.iload 4, 2) := by decide +kernel
theorem d_law_278 : decode code 278 = .ok (.iconst 1, 1) := by decide +kernel
theorem d_law_279 : decode code 279 = .ok (.iadd, 1) := by decide +kernel
theorem d_law_280 : decode code 280 = .ok (.iaload, 1) := by decide +kernel
theorem d_law_281 : decode code 281 = .ok (.aload_n 0, 1) := by decide +kernel
theorem d_law_282 : decode code 282 = .ok (.iload 4, 2) := by decide +kernel
theorem d_law_284 : decode code 284 = .ok (.iconst 2, 1) := by decide +kernel
theorem d_law_285 : decode code 285 = .ok (.iadd, 1) := by decide +kernel
theorem d_law_286 : decode code 286 = .ok (.iaload, 1) := by decide +kernel
theorem d_law_287 : decode code 287 = .ok (.invokevirtual 62, 3) := by decide +kernel
theorem d_law_290 : decode code 290 = .ok (.istore 6, 2) := by decide +kernel
theorem d_law_292 : decode code 292 = .ok (.aload_n 2, 1) := by decide +kernel
theorem d_law_293 : decode code 293 = .ok (.invokevirtual 46, 3) := by decide +kernel
theorem d_law_296 : decode code 296 = .ok (.iload 5, 2) := by decide +kernel
theorem d_law_298 : decode code 298 = .ok (.if_icmp .eq 5, 3) := by decide +kernel
theorem d_law_301 : decode code 301 = .ok (.iconst 0, 1) := by decide +kernel
theorem d_law_302 : decode code 302 = .ok (.ireturn, 1) := by decide +kernel
theorem d_law_303 : decode code 303 = .ok (.iload 5, 2) := by decide +kernel
theorem d_law_305 : decode code 305 = .ok (.ifCond .ne 15, 3) := by decide +kernel
theorem d_law_308 : decode code 308 = .ok (.aload_n 3, 1) := by decide +kernel
theorem d_law_309 : decode code 309 = .ok (.iconst 0, 1) := by decide +kernel
theorem d_law_310 : decode code 310 = .ok (.laload, 1) := by decide +kernel
theorem d_law_311 : decode code 311 = .ok (.iload 6, 2) := by decide +kernel
theorem d_law_313 : decode code 313 = .ok (.i2l, 1) := by decide +kernel
theorem d_law_314 : decode code 314 = .ok (.lcmp, 1) := by decide +kernel
theorem d_law_315 : decode code 315 = .ok (.ifCond .eq 5, 3) := by decide +kernel
theorem d_law_318 : decode code 318 = .ok (.iconst 0, 1) := by decide +kernel
theorem d_law_319 : decode code 319 = .ok (.ireturn, 1) := by decide +kernel
theorem d_law_320 : decode code 320 = .ok (.goto 250, 3) := by decide +kernel
