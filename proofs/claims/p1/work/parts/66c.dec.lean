theorem d_L_law_210 : decode k_L_law 210 = .ok (.iaload, 1) := by decide +kernel
theorem d_L_law_211 : decode k_L_law 211 = .ok (.aload_n 0, 1) := by decide +kernel
theorem d_L_law_212 : decode k_L_law 212 = .ok (.iload_n 3, 1) := by decide +kernel
theorem d_L_law_213 : decode k_L_law 213 = .ok (.iconst 2, 1) := by decide +kernel
theorem d_L_law_214 : decode k_L_law 214 = .ok (.iadd, 1) := by decide +kernel
theorem d_L_law_215 : decode k_L_law 215 = .ok (.iaload, 1) := by decide +kernel
theorem d_L_law_216 : decode k_L_law 216 = .ok (.invokevirtual 32, 3) := by decide +kernel
theorem d_L_law_219 : decode k_L_law 219 = .ok (.if_icmp .eq 212, 3) := by decide +kernel
theorem d_L_law_222 : decode k_L_law 222 = .ok (.iconst 0, 1) := by decide +kernel
theorem d_L_law_223 : decode k_L_law 223 = .ok (.ireturn, 1) := by decide +kernel
theorem d_L_law_224 : decode k_L_law 224 = .ok (.aload_n 1, 1) := by decide +kernel
theorem d_L_law_225 : decode k_L_law 225 = .ok (.invokevirtual 33, 3) := by decide +kernel
theorem d_L_law_228 : decode k_L_law 228 = .ok (.aload_n 2, 1) := by decide +kernel
theorem d_L_law_229 : decode k_L_law 229 = .ok (.invokevirtual 36, 3) := by decide +kernel
theorem d_L_law_232 : decode k_L_law 232 = .ok (.if_icmp .eq 199, 3) := by decide +kernel
theorem d_L_law_235 : decode k_L_law 235 = .ok (.iconst 0, 1) := by decide +kernel
theorem d_L_law_236 : decode k_L_law 236 = .ok (.ireturn, 1) := by decide +kernel
theorem d_L_law_237 : decode k_L_law 237 = .ok (.aload_n 1, 1) := by decide +kernel
theorem d_L_law_238 : decode k_L_law 238 = .ok (.invokevirtual 37, 3) := by decide +kernel
theorem d_L_law_241 : decode k_L_law 241 = .ok (.aload_n 2, 1) := by decide +kernel
theorem d_L_law_242 : decode k_L_law 242 = .ok (.invokevirtual 40, 3) := by decide +kernel
theorem d_L_law_245 : decode k_L_law 245 = .ok (.if_icmp .eq 186, 3) := by decide +kernel
theorem d_L_law_248 : decode k_L_law 248 = .ok (.iconst 0, 1) := by decide +kernel
theorem d_L_law_249 : decode k_L_law 249 = .ok (.ireturn, 1) := by decide +kernel
theorem d_L_law_250 : decode k_L_law 250 = .ok (.aload_n 1, 1) := by decide +kernel
theorem d_L_law_251 : decode k_L_law 251 = .ok (.aload_n 0, 1) := by decide +kernel
theorem d_L_law_252 : decode k_L_law 252 = .ok (.iload_n 3, 1) := by decide +kernel
theorem d_L_law_253 : decode k_L_law 253 = .ok (.iconst 1, 1) := by decide +kernel
theorem d_L_law_254 : decode k_L_law 254 = .ok (.iadd, 1) := by decide +kernel
theorem d_L_law_255 : decode k_L_law 255 = .ok (.iaload, 1) := by decide +kernel
theorem d_L_law_256 : decode k_L_law 256 = .ok (.invokevirtual 41, 3) := by decide +kernel
theorem d_L_law_259 : decode k_L_law 259 = .ok (.aload_n 2, 1) := by decide +kernel
theorem d_L_law_260 : decode k_L_law 260 = .ok (.aload_n 0, 1) := by decide +kernel
theorem d_L_law_261 : decode k_L_law 261 = .ok (.iload_n 3, 1) := by decide +kernel
theorem d_L_law_262 : decode k_L_law 262 = .ok (.iconst 1, 1) := by decide +kernel
theorem d_L_law_263 : decode k_L_law 263 = .ok (.iadd, 1) := by decide +kernel
theorem d_L_law_264 : decode k_L_law 264 = .ok (.iaload, 1) := by decide +kernel
theorem d_L_law_265 : decode k_L_law 265 = .ok (.invokevirtual 45, 3) := by decide +kernel
theorem d_L_law_268 : decode k_L_law 268 = .ok (.if_icmp .eq 163, 3) := by decide +kernel
theorem d_L_law_271 : decode k_L_law 271 = .ok (.iconst 0, 1) := by decide +kernel
theorem d_L_law_272 : decode k_L_law 272 = .ok (.ireturn, 1) := by decide +kernel
theorem d_L_law_273 : decode k_L_law 273 = .ok (.aload_n 1, 1) := by decide +kernel
theorem d_L_law_274 : decode k_L_law 274 = .ok (.invokevirtual 46, 3) := by decide +kernel
theorem d_L_law_277 : decode k_L_law 277 = .ok (.aload_n 2, 1) := by decide +kernel
theorem d_L_law_278 : decode k_L_law 278 = .ok (.invokevirtual 49, 3) := by decide +kernel
theorem d_L_law_281 : decode k_L_law 281 = .ok (.if_icmp .eq 150, 3) := by decide +kernel
theorem d_L_law_284 : decode k_L_law 284 = .ok (.iconst 0, 1) := by decide +kernel
theorem d_L_law_285 : decode k_L_law 285 = .ok (.ireturn, 1) := by decide +kernel
theorem d_L_law_286 : decode k_L_law 286 = .ok (.aload_n 1, 1) := by decide +kernel
theorem d_L_law_287 : decode k_L_law 287 = .ok (.aload_n 0, 1) := by decide +kernel
