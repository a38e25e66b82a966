theorem d_Md_gate_195 : decode b_Md_gate 195 = .ok (.iastore, 1) := by decide +kernel
theorem d_Md_gate_196 : decode b_Md_gate 196 = .ok (.aload_n 0, 1) := by decide +kernel
theorem d_Md_gate_197 : decode b_Md_gate 197 = .ok (.getfield 16, 3) := by decide +kernel
theorem d_Md_gate_200 : decode b_Md_gate 200 = .ok (.iload_n 2, 1) := by decide +kernel
theorem d_Md_gate_201 : decode b_Md_gate 201 = .ok (.dup2, 1) := by decide +kernel
theorem d_Md_gate_202 : decode b_Md_gate 202 = .ok (.iaload, 1) := by decide +kernel
theorem d_Md_gate_203 : decode b_Md_gate 203 = .ok (.aload_n 0, 1) := by decide +kernel
theorem d_Md_gate_204 : decode b_Md_gate 204 = .ok (.getfield 16, 3) := by decide +kernel
theorem d_Md_gate_207 : decode b_Md_gate 207 = .ok (.iload_n 3, 1) := by decide +kernel
theorem d_Md_gate_208 : decode b_Md_gate 208 = .ok (.iaload, 1) := by decide +kernel
theorem d_Md_gate_209 : decode b_Md_gate 209 = .ok (.ixor, 1) := by decide +kernel
theorem d_Md_gate_210 : decode b_Md_gate 210 = .ok (.iastore, 1) := by decide +kernel
theorem d_Md_gate_211 : decode b_Md_gate 211 = .ok (.goto 115, 3) := by decide +kernel
theorem d_Md_gate_214 : decode b_Md_gate 214 = .ok (.aload_n 0, 1) := by decide +kernel
theorem d_Md_gate_215 : decode b_Md_gate 215 = .ok (.iload_n 2, 1) := by decide +kernel
theorem d_Md_gate_216 : decode b_Md_gate 216 = .ok (.iload_n 3, 1) := by decide +kernel
theorem d_Md_gate_217 : decode b_Md_gate 217 = .ok (.invokevirtual 99, 3) := by decide +kernel
theorem d_Md_gate_220 : decode b_Md_gate 220 = .ok (.goto 106, 3) := by decide +kernel
theorem d_Md_gate_223 : decode b_Md_gate 223 = .ok (.aload_n 0, 1) := by decide +kernel
theorem d_Md_gate_224 : decode b_Md_gate 224 = .ok (.iload_n 2, 1) := by decide +kernel
theorem d_Md_gate_225 : decode b_Md_gate 225 = .ok (.iload_n 3, 1) := by decide +kernel
theorem d_Md_gate_226 : decode b_Md_gate 226 = .ok (.iconst 0, 1) := by decide +kernel
theorem d_Md_gate_227 : decode b_Md_gate 227 = .ok (.invokevirtual 66, 3) := by decide +kernel
theorem d_Md_gate_230 : decode b_Md_gate 230 = .ok (.goto 96, 3) := by decide +kernel
theorem d_Md_gate_233 : decode b_Md_gate 233 = .ok (.aload_n 0, 1) := by decide +kernel
theorem d_Md_gate_234 : decode b_Md_gate 234 = .ok (.iload_n 2, 1) := by decide +kernel
theorem d_Md_gate_235 : decode b_Md_gate 235 = .ok (.iload_n 3, 1) := by decide +kernel
theorem d_Md_gate_236 : decode b_Md_gate 236 = .ok (.iload 4, 2) := by decide +kernel
theorem d_Md_gate_238 : decode b_Md_gate 238 = .ok (.invokevirtual 102, 3) := by decide +kernel
theorem d_Md_gate_241 : decode b_Md_gate 241 = .ok (.goto 85, 3) := by decide +kernel
theorem d_Md_gate_244 : decode b_Md_gate 244 = .ok (.aload_n 0, 1) := by decide +kernel
theorem d_Md_gate_245 : decode b_Md_gate 245 = .ok (.iload_n 2, 1) := by decide +kernel
theorem d_Md_gate_246 : decode b_Md_gate 246 = .ok (.iconst 1, 1) := by decide +kernel
theorem d_Md_gate_247 : decode b_Md_gate 247 = .ok (.invokevirtual 105, 3) := by decide +kernel
theorem d_Md_gate_250 : decode b_Md_gate 250 = .ok (.aload_n 0, 1) := by decide +kernel
theorem d_Md_gate_251 : decode b_Md_gate 251 = .ok (.getfield 13, 3) := by decide +kernel
theorem d_Md_gate_254 : decode b_Md_gate 254 = .ok (.iload_n 2, 1) := by decide +kernel
theorem d_Md_gate_255 : decode b_Md_gate 255 = .ok (.iconst 1, 1) := by decide +kernel
theorem d_Md_gate_256 : decode b_Md_gate 256 = .ok (.aload_n 0, 1) := by decide +kernel
theorem d_Md_gate_257 : decode b_Md_gate 257 = .ok (.getfield 80, 3) := by decide +kernel
theorem d_Md_gate_260 : decode b_Md_gate 260 = .ok (.iconst 1, 1) := by decide +kernel
theorem d_Md_gate_261 : decode b_Md_gate 261 = .ok (.isub, 1) := by decide +kernel
theorem d_Md_gate_262 : decode b_Md_gate 262 = .ok (.ishl, 1) := by decide +kernel
theorem d_Md_gate_263 : decode b_Md_gate 263 = .ok (.iastore, 1) := by decide +kernel
theorem d_Md_gate_264 : decode b_Md_gate 264 = .ok (.aload_n 0, 1) := by decide +kernel
theorem d_Md_gate_265 : decode b_Md_gate 265 = .ok (.getfield 16, 3) := by decide +kernel
theorem d_Md_gate_268 : decode b_Md_gate 268 = .ok (.iload_n 2, 1) := by decide +kernel
theorem d_Md_gate_269 : decode b_Md_gate 269 = .ok (.iconst 0, 1) := by decide +kernel
theorem d_Md_gate_270 : decode b_Md_gate 270 = .ok (.iastore, 1) := by decide +kernel
theorem d_Md_gate_271 : decode b_Md_gate 271 = .ok (.goto 55, 3) := by decide +kernel
theorem d_Md_gate_274 : decode b_Md_gate 274 = .ok (.aload_n 0, 1) := by decide +kernel
theorem d_Md_gate_275 : decode b_Md_gate 275 = .ok (.iload_n 2, 1) := by decide +kernel
theorem d_Md_gate_276 : decode b_Md_gate 276 = .ok (.iconst 2, 1) := by decide +kernel
theorem d_Md_gate_277 : decode b_Md_gate 277 = .ok (.invokevirtual 105, 3) := by decide +kernel
theorem d_Md_gate_280 : decode b_Md_gate 280 = .ok (.goto 46, 3) := by decide +kernel
theorem d_Md_gate_283 : decode b_Md_gate 283 = .ok (.aload_n 0, 1) := by decide +kernel
theorem d_Md_gate_284 : decode b_Md_gate 284 = .ok (.iload_n 2, 1) := by decide +kernel
theorem d_Md_gate_285 : decode b_Md_gate 285 = .ok (.iconst 2, 1) := by decide +kernel
theorem d_Md_gate_286 : decode b_Md_gate 286 = .ok (.invokevirtual 105, 3) := by decide +kernel
theorem d_Md_gate_289 : decode b_Md_gate 289 = .ok (.aload_n 0, 1) := by decide +kernel
theorem d_Md_gate_290 : decode b_Md_gate 290 = .ok (.iconst 1, 1) := by decide +kernel
theorem d_Md_gate_291 : decode b_Md_gate 291 = .ok (.aload_n 0, 1) := by decide +kernel
theorem d_Md_gate_292 : decode b_Md_gate 292 = .ok (.getfield 80, 3) := by decide +kernel
theorem d_Md_gate_295 : decode b_Md_gate 295 = .ok (.iconst 1, 1) := by decide +kernel
theorem d_Md_gate_296 : decode b_Md_gate 296 = .ok (.isub, 1) := by decide +kernel
theorem d_Md_gate_297 : decode b_Md_gate 297 = .ok (.ishl, 1) := by decide +kernel
theorem d_Md_gate_298 : decode b_Md_gate 298 = .ok (.iconst 4, 1) := by decide +kernel
theorem d_Md_gate_299 : decode b_Md_gate 299 = .ok (.invokevirtual 59, 3) := by decide +kernel
theorem d_Md_gate_302 : decode b_Md_gate 302 = .ok (.goto 24, 3) := by decide +kernel
theorem d_Md_gate_305 : decode b_Md_gate 305 = .ok (.aload_n 0, 1) := by decide +kernel
theorem d_Md_gate_306 : decode b_Md_gate 306 = .ok (.aload_n 0, 1) := by decide +kernel
theorem d_Md_gate_307 : decode b_Md_gate 307 = .ok (.getfield 13, 3) := by decide +kernel
theorem d_Md_gate_310 : decode b_Md_gate 310 = .ok (.iload_n 2, 1) := by decide +kernel
theorem d_Md_gate_311 : decode b_Md_gate 311 = .ok (.iaload, 1) := by decide +kernel
theorem d_Md_gate_312 : decode b_Md_gate 312 = .ok (.aload_n 0, 1) := by decide +kernel
theorem d_Md_gate_313 : decode b_Md_gate 313 = .ok (.getfield 16, 3) := by decide +kernel
theorem d_Md_gate_316 : decode b_Md_gate 316 = .ok (.iload_n 2, 1) := by decide +kernel
theorem d_Md_gate_317 : decode b_Md_gate 317 = .ok (.iaload, 1) := by decide +kernel
theorem d_Md_gate_318 : decode b_Md_gate 318 = .ok (.iload_n 1, 1) := by decide +kernel
theorem d_Md_gate_319 : decode b_Md_gate 319 = .ok (.invokestatic 108, 3) := by decide +kernel
theorem d_Md_gate_322 : decode b_Md_gate 322 = .ok (.iconst 0, 1) := by decide +kernel
theorem d_Md_gate_323 : decode b_Md_gate 323 = .ok (.invokevirtual 111, 3) := by decide +kernel
theorem d_Md_gate_326 : decode b_Md_gate 326 = .ok (.iconst 1, 1) := by decide +kernel
theorem d_Md_gate_327 : decode b_Md_gate 327 = .ok (.ireturn, 1) := by decide +kernel
theorem d_Md_newBit_0 : decode b_Md_newBit 0 = .ok (.aload_n 0, 1) := by decide +kernel
theorem d_Md_newBit_1 : decode b_Md_newBit 1 = .ok (.iload_n 1, 1) := by decide +kernel
theorem d_Md_newBit_2 : decode b_Md_newBit 2 = .ok (.iconst 1, 1) := by decide +kernel
theorem d_Md_newBit_3 : decode b_Md_newBit 3 = .ok (.aload_n 0, 1) := by decide +kernel
theorem d_Md_newBit_4 : decode b_Md_newBit 4 = .ok (.getfield 80, 3) := by decide +kernel
theorem d_Md_newBit_7 : decode b_Md_newBit 7 = .ok (.ishl, 1) := by decide +kernel
theorem d_Md_newBit_8 : decode b_Md_newBit 8 = .ok (.invokevirtual 63, 3) := by decide +kernel
theorem d_Md_newBit_11 : decode b_Md_newBit 11 = .ok (.aload_n 0, 1) := by decide +kernel
theorem d_Md_newBit_12 : decode b_Md_newBit 12 = .ok (.dup, 1) := by decide +kernel
theorem d_Md_newBit_13 : decode b_Md_newBit 13 = .ok (.getfield 83, 3) := by decide +kernel
theorem d_Md_newBit_16 : decode b_Md_newBit 16 = .ok (.iconst 1, 1) := by decide +kernel
theorem d_Md_newBit_17 : decode b_Md_newBit 17 = .ok (.aload_n 0, 1) := by decide +kernel
theorem d_Md_newBit_18 : decode b_Md_newBit 18 = .ok (.getfield 80, 3) := by decide +kernel
theorem d_Md_newBit_21 : decode b_Md_newBit 21 = .ok (.ishl, 1) := by decide +kernel
theorem d_Md_newBit_22 : decode b_Md_newBit 22 = .ok (.ior, 1) := by decide +kernel
theorem d_Md_newBit_23 : decode b_Md_newBit 23 = .ok (.putfield 83, 3) := by decide +kernel
theorem d_Md_newBit_26 : decode b_Md_newBit 26 = .ok (.aload_n 0, 1) := by decide +kernel
theorem d_Md_newBit_27 : decode b_Md_newBit 27 = .ok (.dup, 1) := by decide +kernel
theorem d_Md_newBit_28 : decode b_Md_newBit 28 = .ok (.getfield 80, 3) := by decide +kernel
theorem d_Md_newBit_31 : decode b_Md_newBit 31 = .ok (.iconst 1, 1) := by decide +kernel
theorem d_Md_newBit_32 : decode b_Md_newBit 32 = .ok (.iadd, 1) := by decide +kernel
theorem d_Md_newBit_33 : decode b_Md_newBit 33 = .ok (.putfield 80, 3) := by decide +kernel
theorem d_Md_newBit_36 : decode b_Md_newBit 36 = .ok (.aload_n 0, 1) := by decide +kernel
theorem d_Md_newBit_37 : decode b_Md_newBit 37 = .ok (.dup, 1) := by decide +kernel
theorem d_Md_newBit_38 : decode b_Md_newBit 38 = .ok (.getfield 86, 3) := by decide +kernel
theorem d_Md_newBit_41 : decode b_Md_newBit 41 = .ok (.iload_n 2, 1) := by decide +kernel
theorem d_Md_newBit_42 : decode b_Md_newBit 42 = .ok (.iadd, 1) := by decide +kernel
theorem d_Md_newBit_43 : decode b_Md_newBit 43 = .ok (.putfield 86, 3) := by decide +kernel
theorem d_Md_newBit_46 : decode b_Md_newBit 46 = .ok (.return_, 1) := by decide +kernel
theorem d_Md_inputs_0 : decode b_Md_inputs 0 = .ok (.aload_n 0, 1) := by decide +kernel
theorem d_Md_inputs_1 : decode b_Md_inputs 1 = .ok (.getfield 73, 3) := by decide +kernel
theorem d_Md_inputs_4 : decode b_Md_inputs 4 = .ok (.ifCond .eq 14, 3) := by decide +kernel
theorem d_Md_inputs_7 : decode b_Md_inputs 7 = .ok (.iconst 1, 1) := by decide +kernel
theorem d_Md_inputs_8 : decode b_Md_inputs 8 = .ok (.aload_n 0, 1) := by decide +kernel
theorem d_Md_inputs_9 : decode b_Md_inputs 9 = .ok (.getfield 70, 3) := by decide +kernel
theorem d_Md_inputs_12 : decode b_Md_inputs 12 = .ok (.ishl, 1) := by decide +kernel
theorem d_Md_inputs_13 : decode b_Md_inputs 13 = .ok (.iconst 1, 1) := by decide +kernel
theorem d_Md_inputs_14 : decode b_Md_inputs 14 = .ok (.isub, 1) := by decide +kernel
theorem d_Md_inputs_15 : decode b_Md_inputs 15 = .ok (.goto 4, 3) := by decide +kernel
theorem d_Md_inputs_18 : decode b_Md_inputs 18 = .ok (.iconst 0, 1) := by decide +kernel
theorem d_Md_inputs_19 : decode b_Md_inputs 19 = .ok (.ireturn, 1) := by decide +kernel
theorem d_Md_isHidden_0 : decode b_Md_isHidden 0 = .ok (.aload_n 0, 1) := by decide +kernel
theorem d_Md_isHidden_1 : decode b_Md_isHidden 1 = .ok (.getfield 83, 3) := by decide +kernel
theorem d_Md_isHidden_4 : decode b_Md_isHidden 4 = .ok (.iload_n 1, 1) := by decide +kernel
theorem d_Md_isHidden_5 : decode b_Md_isHidden 5 = .ok (.ishr, 1) := by decide +kernel
theorem d_Md_isHidden_6 : decode b_Md_isHidden 6 = .ok (.iconst 1, 1) := by decide +kernel
theorem d_Md_isHidden_7 : decode b_Md_isHidden 7 = .ok (.iand, 1) := by decide +kernel
theorem d_Md_isHidden_8 : decode b_Md_isHidden 8 = .ok (.ifCond .eq 15, 3) := by decide +kernel
theorem d_Md_isHidden_11 : decode b_Md_isHidden 11 = .ok (.aload_n 0, 1) := by decide +kernel
theorem d_Md_isHidden_12 : decode b_Md_isHidden 12 = .ok (.invokevirtual 115, 3) := by decide +kernel
theorem d_Md_isHidden_15 : decode b_Md_isHidden 15 = .ok (.iload_n 1, 1) := by decide +kernel
theorem d_Md_isHidden_16 : decode b_Md_isHidden 16 = .ok (.ishr, 1) := by decide +kernel
theorem d_Md_isHidden_17 : decode b_Md_isHidden 17 = .ok (.iconst 1, 1) := by decide +kernel
theorem d_Md_isHidden_18 : decode b_Md_isHidden 18 = .ok (.iand, 1) := by decide +kernel
theorem d_Md_isHidden_19 : decode b_Md_isHidden 19 = .ok (.iconst 1, 1) := by decide +kernel
theorem d_Md_isHidden_20 : decode b_Md_isHidden 20 = .ok (.if_icmp .ne 5, 3) := by decide +kernel
theorem d_Md_isHidden_23 : decode b_Md_isHidden 23 = .ok (.iconst 0, 1) := by decide +kernel
theorem d_Md_isHidden_24 : decode b_Md_isHidden 24 = .ok (.ireturn, 1) := by decide +kernel
theorem d_Md_isHidden_25 : decode b_Md_isHidden 25 = .ok (.iconst 0, 1) := by decide +kernel
theorem d_Md_isHidden_26 : decode b_Md_isHidden 26 = .ok (.istore_n 2, 1) := by decide +kernel
theorem d_Md_isHidden_27 : decode b_Md_isHidden 27 = .ok (.iload_n 2, 1) := by decide +kernel
theorem d_Md_isHidden_28 : decode b_Md_isHidden 28 = .ok (.aload_n 0, 1) := by decide +kernel
theorem d_Md_isHidden_29 : decode b_Md_isHidden 29 = .ok (.getfield 70, 3) := by decide +kernel
theorem d_Md_isHidden_32 : decode b_Md_isHidden 32 = .ok (.if_icmp .ge 25, 3) := by decide +kernel
theorem d_Md_isHidden_35 : decode b_Md_isHidden 35 = .ok (.aload_n 0, 1) := by decide +kernel
theorem d_Md_isHidden_36 : decode b_Md_isHidden 36 = .ok (.getfield 13, 3) := by decide +kernel
theorem d_Md_isHidden_39 : decode b_Md_isHidden 39 = .ok (.iload_n 2, 1) := by decide +kernel
theorem d_Md_isHidden_40 : decode b_Md_isHidden 40 = .ok (.iaload, 1) := by decide +kernel
theorem d_Md_isHidden_41 : decode b_Md_isHidden 41 = .ok (.iload_n 1, 1) := by decide +kernel
theorem d_Md_isHidden_42 : decode b_Md_isHidden 42 = .ok (.ishr, 1) := by decide +kernel
theorem d_Md_isHidden_43 : decode b_Md_isHidden 43 = .ok (.iconst 1, 1) := by decide +kernel
theorem d_Md_isHidden_44 : decode b_Md_isHidden 44 = .ok (.iand, 1) := by decide +kernel
theorem d_Md_isHidden_45 : decode b_Md_isHidden 45 = .ok (.iconst 1, 1) := by decide +kernel
theorem d_Md_isHidden_46 : decode b_Md_isHidden 46 = .ok (.if_icmp .ne 5, 3) := by decide +kernel
theorem d_Md_isHidden_49 : decode b_Md_isHidden 49 = .ok (.iconst 0, 1) := by decide +kernel
theorem d_Md_isHidden_50 : decode b_Md_isHidden 50 = .ok (.ireturn, 1) := by decide +kernel
theorem d_Md_isHidden_51 : decode b_Md_isHidden 51 = .ok (.iinc 2 1, 3) := by decide +kernel
theorem d_Md_isHidden_54 : decode b_Md_isHidden 54 = .ok (.goto (-27), 3) := by decide +kernel
theorem d_Md_isHidden_57 : decode b_Md_isHidden 57 = .ok (.iconst 1, 1) := by decide +kernel
theorem d_Md_isHidden_58 : decode b_Md_isHidden 58 = .ok (.ireturn, 1) := by decide +kernel
theorem d_Md_findFactor_0 : decode b_Md_findFactor 0 = .ok (.aload_n 0, 1) := by decide +kernel
theorem d_Md_findFactor_1 : decode b_Md_findFactor 1 = .ok (.aload_n 0, 1) := by decide +kernel
theorem d_Md_findFactor_2 : decode b_Md_findFactor 2 = .ok (.iconst 1, 1) := by decide +kernel
theorem d_Md_findFactor_3 : decode b_Md_findFactor 3 = .ok (.iload_n 1, 1) := by decide +kernel
theorem d_Md_findFactor_4 : decode b_Md_findFactor 4 = .ok (.ishl, 1) := by decide +kernel
theorem d_Md_findFactor_5 : decode b_Md_findFactor 5 = .ok (.invokevirtual 119, 3) := by decide +kernel
theorem d_Md_findFactor_8 : decode b_Md_findFactor 8 = .ok (.putfield 122, 3) := by decide +kernel
theorem d_Md_findFactor_11 : decode b_Md_findFactor 11 = .ok (.aload_n 0, 1) := by decide +kernel
theorem d_Md_findFactor_12 : decode b_Md_findFactor 12 = .ok (.iconst 0, 1) := by decide +kernel
theorem d_Md_findFactor_13 : decode b_Md_findFactor 13 = .ok (.putfield 125, 3) := by decide +kernel
theorem d_Md_findFactor_16 : decode b_Md_findFactor 16 = .ok (.iconst 0, 1) := by decide +kernel
theorem d_Md_findFactor_17 : decode b_Md_findFactor 17 = .ok (.istore_n 2, 1) := by decide +kernel
theorem d_Md_findFactor_18 : decode b_Md_findFactor 18 = .ok (.iload_n 2, 1) := by decide +kernel
theorem d_Md_findFactor_19 : decode b_Md_findFactor 19 = .ok (.bipush 24, 2) := by decide +kernel
theorem d_Md_findFactor_21 : decode b_Md_findFactor 21 = .ok (.if_icmp .ge 99, 3) := by decide +kernel
theorem d_Md_findFactor_24 : decode b_Md_findFactor 24 = .ok (.iload_n 2, 1) := by decide +kernel
theorem d_Md_findFactor_25 : decode b_Md_findFactor 25 = .ok (.iload_n 1, 1) := by decide +kernel
theorem d_Md_findFactor_26 : decode b_Md_findFactor 26 = .ok (.if_icmp .ne 6, 3) := by decide +kernel
theorem d_Md_findFactor_29 : decode b_Md_findFactor 29 = .ok (.goto 85, 3) := by decide +kernel
theorem d_Md_findFactor_32 : decode b_Md_findFactor 32 = .ok (.aload_n 0, 1) := by decide +kernel
theorem d_Md_findFactor_33 : decode b_Md_findFactor 33 = .ok (.iconst 1, 1) := by decide +kernel
theorem d_Md_findFactor_34 : decode b_Md_findFactor 34 = .ok (.iload_n 1, 1) := by decide +kernel
theorem d_Md_findFactor_35 : decode b_Md_findFactor 35 = .ok (.ishl, 1) := by decide +kernel
theorem d_Md_findFactor_36 : decode b_Md_findFactor 36 = .ok (.iconst 1, 1) := by decide +kernel
theorem d_Md_findFactor_37 : decode b_Md_findFactor 37 = .ok (.iload_n 2, 1) := by decide +kernel
theorem d_Md_findFactor_38 : decode b_Md_findFactor 38 = .ok (.ishl, 1) := by decide +kernel
theorem d_Md_findFactor_39 : decode b_Md_findFactor 39 = .ok (.ior, 1) := by decide +kernel
theorem d_Md_findFactor_40 : decode b_Md_findFactor 40 = .ok (.invokevirtual 119, 3) := by decide +kernel
theorem d_Md_findFactor_43 : decode b_Md_findFactor 43 = .ok (.istore_n 3, 1) := by decide +kernel
theorem d_Md_findFactor_44 : decode b_Md_findFactor 44 = .ok (.iload_n 3, 1) := by decide +kernel
theorem d_Md_findFactor_45 : decode b_Md_findFactor 45 = .ok (.ifCond .eq 10, 3) := by decide +kernel
theorem d_Md_findFactor_48 : decode b_Md_findFactor 48 = .ok (.iload_n 3, 1) := by decide +kernel
theorem d_Md_findFactor_49 : decode b_Md_findFactor 49 = .ok (.iconst 4, 1) := by decide +kernel
theorem d_Md_findFactor_50 : decode b_Md_findFactor 50 = .ok (.if_icmp .eq 5, 3) := by decide +kernel
theorem d_Md_findFactor_53 : decode b_Md_findFactor 53 = .ok (.iconst 0, 1) := by decide +kernel
theorem d_Md_findFactor_54 : decode b_Md_findFactor 54 = .ok (.ireturn, 1) := by decide +kernel
theorem d_Md_findFactor_55 : decode b_Md_findFactor 55 = .ok (.iload_n 3, 1) := by decide +kernel
theorem d_Md_findFactor_56 : decode b_Md_findFactor 56 = .ok (.iconst 4, 1) := by decide +kernel
theorem d_Md_findFactor_57 : decode b_Md_findFactor 57 = .ok (.if_icmp .ne 15, 3) := by decide +kernel
theorem d_Md_findFactor_60 : decode b_Md_findFactor 60 = .ok (.aload_n 0, 1) := by decide +kernel
theorem d_Md_findFactor_61 : decode b_Md_findFactor 61 = .ok (.dup, 1) := by decide +kernel
theorem d_Md_findFactor_62 : decode b_Md_findFactor 62 = .ok (.getfield 125, 3) := by decide +kernel
theorem d_Md_findFactor_65 : decode b_Md_findFactor 65 = .ok (.iconst 1, 1) := by decide +kernel
theorem d_Md_findFactor_66 : decode b_Md_findFactor 66 = .ok (.iload_n 2, 1) := by decide +kernel
theorem d_Md_findFactor_67 : decode b_Md_findFactor 67 = .ok (.ishl, 1) := by decide +kernel
theorem d_Md_findFactor_68 : decode b_Md_findFactor 68 = .ok (.ior, 1) := by decide +kernel
theorem d_Md_findFactor_69 : decode b_Md_findFactor 69 = .ok (.putfield 125, 3) := by decide +kernel
theorem d_Md_findFactor_72 : decode b_Md_findFactor 72 = .ok (.iconst 0, 1) := by decide +kernel
theorem d_Md_findFactor_73 : decode b_Md_findFactor 73 = .ok (.istore 4, 2) := by decide +kernel
theorem d_Md_findFactor_75 : decode b_Md_findFactor 75 = .ok (.iload 4, 2) := by decide +kernel
theorem d_Md_findFactor_77 : decode b_Md_findFactor 77 = .ok (.iload_n 2, 1) := by decide +kernel
theorem d_Md_findFactor_78 : decode b_Md_findFactor 78 = .ok (.if_icmp .ge 36, 3) := by decide +kernel
theorem d_Md_findFactor_81 : decode b_Md_findFactor 81 = .ok (.iload 4, 2) := by decide +kernel
theorem d_Md_findFactor_83 : decode b_Md_findFactor 83 = .ok (.iload_n 1, 1) := by decide +kernel
theorem d_Md_findFactor_84 : decode b_Md_findFactor 84 = .ok (.if_icmp .eq 24, 3) := by decide +kernel
theorem d_Md_findFactor_87 : decode b_Md_findFactor 87 = .ok (.aload_n 0, 1) := by decide +kernel
theorem d_Md_findFactor_88 : decode b_Md_findFactor 88 = .ok (.iconst 1, 1) := by decide +kernel
theorem d_Md_findFactor_89 : decode b_Md_findFactor 89 = .ok (.iload_n 1, 1) := by decide +kernel
theorem d_Md_findFactor_90 : decode b_Md_findFactor 90 = .ok (.ishl, 1) := by decide +kernel
theorem d_Md_findFactor_91 : decode b_Md_findFactor 91 = .ok (.iconst 1, 1) := by decide +kernel
theorem d_Md_findFactor_92 : decode b_Md_findFactor 92 = .ok (.iload_n 2, 1) := by decide +kernel
theorem d_Md_findFactor_93 : decode b_Md_findFactor 93 = .ok (.ishl, 1) := by decide +kernel
theorem d_Md_findFactor_94 : decode b_Md_findFactor 94 = .ok (.ior, 1) := by decide +kernel
theorem d_Md_findFactor_95 : decode b_Md_findFactor 95 = .ok (.iconst 1, 1) := by decide +kernel
theorem d_Md_findFactor_96 : decode b_Md_findFactor 96 = .ok (.iload 4, 2) := by decide +kernel
theorem d_Md_findFactor_98 : decode b_Md_findFactor 98 = .ok (.ishl, 1) := by decide +kernel
theorem d_Md_findFactor_99 : decode b_Md_findFactor 99 = .ok (.ior, 1) := by decide +kernel
theorem d_Md_findFactor_100 : decode b_Md_findFactor 100 = .ok (.invokevirtual 119, 3) := by decide +kernel
theorem d_Md_findFactor_103 : decode b_Md_findFactor 103 = .ok (.ifCond .eq 5, 3) := by decide +kernel
theorem d_Md_findFactor_106 : decode b_Md_findFactor 106 = .ok (.iconst 0, 1) := by decide +kernel
theorem d_Md_findFactor_107 : decode b_Md_findFactor 107 = .ok (.ireturn, 1) := by decide +kernel
theorem d_Md_findFactor_108 : decode b_Md_findFactor 108 = .ok (.iinc 4 1, 3) := by decide +kernel
theorem d_Md_findFactor_111 : decode b_Md_findFactor 111 = .ok (.goto (-36), 3) := by decide +kernel
theorem d_Md_findFactor_114 : decode b_Md_findFactor 114 = .ok (.iinc 2 1, 3) := by decide +kernel
theorem d_Md_findFactor_117 : decode b_Md_findFactor 117 = .ok (.goto (-99), 3) := by decide +kernel
theorem d_Md_findFactor_120 : decode b_Md_findFactor 120 = .ok (.iconst 1, 1) := by decide +kernel
theorem d_Md_findFactor_121 : decode b_Md_findFactor 121 = .ok (.ireturn, 1) := by decide +kernel
theorem d_Md_ruleFor_0 : decode b_Md_ruleFor 0 = .ok (.aload_n 0, 1) := by decide +kernel
theorem d_Md_ruleFor_1 : decode b_Md_ruleFor 1 = .ok (.iload_n 1, 1) := by decide +kernel
theorem d_Md_ruleFor_2 : decode b_Md_ruleFor 2 = .ok (.invokevirtual 128, 3) := by decide +kernel
theorem d_Md_ruleFor_5 : decode b_Md_ruleFor 5 = .ok (.ifCond .eq 11, 3) := by decide +kernel
theorem d_Md_ruleFor_8 : decode b_Md_ruleFor 8 = .ok (.aload_n 0, 1) := by decide +kernel
theorem d_Md_ruleFor_9 : decode b_Md_ruleFor 9 = .ok (.iload_n 1, 1) := by decide +kernel
theorem d_Md_ruleFor_10 : decode b_Md_ruleFor 10 = .ok (.invokevirtual 131, 3) := by decide +kernel
theorem d_Md_ruleFor_13 : decode b_Md_ruleFor 13 = .ok (.ifCond .ne 5, 3) := by decide +kernel
theorem d_Md_ruleFor_16 : decode b_Md_ruleFor 16 = .ok (.iconst 0, 1) := by decide +kernel
theorem d_Md_ruleFor_17 : decode b_Md_ruleFor 17 = .ok (.ireturn, 1) := by decide +kernel
theorem d_Md_ruleFor_18 : decode b_Md_ruleFor 18 = .ok (.aload_n 0, 1) := by decide +kernel
theorem d_Md_ruleFor_19 : decode b_Md_ruleFor 19 = .ok (.getfield 125, 3) := by decide +kernel
theorem d_Md_ruleFor_22 : decode b_Md_ruleFor 22 = .ok (.ifCond .ne 12, 3) := by decide +kernel
theorem d_Md_ruleFor_25 : decode b_Md_ruleFor 25 = .ok (.aload_n 0, 1) := by decide +kernel
theorem d_Md_ruleFor_26 : decode b_Md_ruleFor 26 = .ok (.getfield 122, 3) := by decide +kernel
theorem d_Md_ruleFor_29 : decode b_Md_ruleFor 29 = .ok (.ifCond .ne 5, 3) := by decide +kernel
theorem d_Md_ruleFor_32 : decode b_Md_ruleFor 32 = .ok (.iconst 1, 1) := by decide +kernel
theorem d_Md_ruleFor_33 : decode b_Md_ruleFor 33 = .ok (.ireturn, 1) := by decide +kernel
theorem d_Md_ruleFor_34 : decode b_Md_ruleFor 34 = .ok (.aload_n 0, 1) := by decide +kernel
theorem d_Md_ruleFor_35 : decode b_Md_ruleFor 35 = .ok (.getfield 125, 3) := by decide +kernel
theorem d_Md_ruleFor_38 : decode b_Md_ruleFor 38 = .ok (.ifCond .ne 13, 3) := by decide +kernel
theorem d_Md_ruleFor_41 : decode b_Md_ruleFor 41 = .ok (.aload_n 0, 1) := by decide +kernel
theorem d_Md_ruleFor_42 : decode b_Md_ruleFor 42 = .ok (.getfield 122, 3) := by decide +kernel
theorem d_Md_ruleFor_45 : decode b_Md_ruleFor 45 = .ok (.iconst 4, 1) := by decide +kernel
theorem d_Md_ruleFor_46 : decode b_Md_ruleFor 46 = .ok (.if_icmp .ne 5, 3) := by decide +kernel
theorem d_Md_ruleFor_49 : decode b_Md_ruleFor 49 = .ok (.iconst 2, 1) := by decide +kernel
theorem d_Md_ruleFor_50 : decode b_Md_ruleFor 50 = .ok (.ireturn, 1) := by decide +kernel
theorem d_Md_ruleFor_51 : decode b_Md_ruleFor 51 = .ok (.aload_n 0, 1) := by decide +kernel
theorem d_Md_ruleFor_52 : decode b_Md_ruleFor 52 = .ok (.getfield 122, 3) := by decide +kernel
theorem d_Md_ruleFor_55 : decode b_Md_ruleFor 55 = .ok (.iconst 2, 1) := by decide +kernel
theorem d_Md_ruleFor_56 : decode b_Md_ruleFor 56 = .ok (.if_icmp .eq 12, 3) := by decide +kernel
theorem d_Md_ruleFor_59 : decode b_Md_ruleFor 59 = .ok (.aload_n 0, 1) := by decide +kernel
theorem d_Md_ruleFor_60 : decode b_Md_ruleFor 60 = .ok (.getfield 122, 3) := by decide +kernel
theorem d_Md_ruleFor_63 : decode b_Md_ruleFor 63 = .ok (.bipush 6, 2) := by decide +kernel
theorem d_Md_ruleFor_65 : decode b_Md_ruleFor 65 = .ok (.if_icmp .ne 5, 3) := by decide +kernel
theorem d_Md_ruleFor_68 : decode b_Md_ruleFor 68 = .ok (.iconst 4, 1) := by decide +kernel
theorem d_Md_ruleFor_69 : decode b_Md_ruleFor 69 = .ok (.ireturn, 1) := by decide +kernel
theorem d_Md_ruleFor_70 : decode b_Md_ruleFor 70 = .ok (.aload_n 0, 1) := by decide +kernel
theorem d_Md_ruleFor_71 : decode b_Md_ruleFor 71 = .ok (.getfield 122, 3) := by decide +kernel
theorem d_Md_ruleFor_74 : decode b_Md_ruleFor 74 = .ok (.ifCond .eq 11, 3) := by decide +kernel
theorem d_Md_ruleFor_77 : decode b_Md_ruleFor 77 = .ok (.aload_n 0, 1) := by decide +kernel
theorem d_Md_ruleFor_78 : decode b_Md_ruleFor 78 = .ok (.getfield 122, 3) := by decide +kernel
theorem d_Md_ruleFor_81 : decode b_Md_ruleFor 81 = .ok (.iconst 4, 1) := by decide +kernel
theorem d_Md_ruleFor_82 : decode b_Md_ruleFor 82 = .ok (.if_icmp .ne 7, 3) := by decide +kernel
theorem d_Md_ruleFor_85 : decode b_Md_ruleFor 85 = .ok (.iconst 1, 1) := by decide +kernel
theorem d_Md_ruleFor_86 : decode b_Md_ruleFor 86 = .ok (.goto 4, 3) := by decide +kernel
theorem d_Md_ruleFor_89 : decode b_Md_ruleFor 89 = .ok (.iconst 0, 1) := by decide +kernel
theorem d_Md_ruleFor_90 : decode b_Md_ruleFor 90 = .ok (.istore_n 2, 1) := by decide +kernel
theorem d_Md_ruleFor_91 : decode b_Md_ruleFor 91 = .ok (.iload_n 2, 1) := by decide +kernel
theorem d_Md_ruleFor_92 : decode b_Md_ruleFor 92 = .ok (.ifCond .eq 21, 3) := by decide +kernel
theorem d_Md_ruleFor_95 : decode b_Md_ruleFor 95 = .ok (.aload_n 0, 1) := by decide +kernel
theorem d_Md_ruleFor_96 : decode b_Md_ruleFor 96 = .ok (.getfield 125, 3) := by decide +kernel
theorem d_Md_ruleFor_99 : decode b_Md_ruleFor 99 = .ok (.aload_n 0, 1) := by decide +kernel
theorem d_Md_ruleFor_100 : decode b_Md_ruleFor 100 = .ok (.invokevirtual 115, 3) := by decide +kernel
theorem d_Md_ruleFor_103 : decode b_Md_ruleFor 103 = .ok (.iconst (-1), 1) := by decide +kernel
theorem d_Md_ruleFor_104 : decode b_Md_ruleFor 104 = .ok (.ixor, 1) := by decide +kernel
theorem d_Md_ruleFor_105 : decode b_Md_ruleFor 105 = .ok (.iand, 1) := by decide +kernel
theorem d_Md_ruleFor_106 : decode b_Md_ruleFor 106 = .ok (.ifCond .eq 7, 3) := by decide +kernel
theorem d_Md_ruleFor_109 : decode b_Md_ruleFor 109 = .ok (.iconst 3, 1) := by decide +kernel
theorem d_Md_ruleFor_110 : decode b_Md_ruleFor 110 = .ok (.goto 4, 3) := by decide +kernel
theorem d_Md_ruleFor_113 : decode b_Md_ruleFor 113 = .ok (.iconst 0, 1) := by decide +kernel
theorem d_Md_ruleFor_114 : decode b_Md_ruleFor 114 = .ok (.ireturn, 1) := by decide +kernel
theorem d_Md_empty_0 : decode b_Md_empty 0 = .ok (.aload_n 0, 1) := by decide +kernel
theorem d_Md_empty_1 : decode b_Md_empty 1 = .ok (.iconst 1, 1) := by decide +kernel
theorem d_Md_empty_2 : decode b_Md_empty 2 = .ok (.putfield 77, 3) := by decide +kernel
theorem d_Md_empty_5 : decode b_Md_empty 5 = .ok (.aload_n 0, 1) := by decide +kernel
theorem d_Md_empty_6 : decode b_Md_empty 6 = .ok (.dup, 1) := by decide +kernel
theorem d_Md_empty_7 : decode b_Md_empty 7 = .ok (.getfield 83, 3) := by decide +kernel
theorem d_Md_empty_10 : decode b_Md_empty 10 = .ok (.aload_n 0, 1) := by decide +kernel
theorem d_Md_empty_11 : decode b_Md_empty 11 = .ok (.invokevirtual 115, 3) := by decide +kernel
theorem d_Md_empty_14 : decode b_Md_empty 14 = .ok (.iand, 1) := by decide +kernel
theorem d_Md_empty_15 : decode b_Md_empty 15 = .ok (.putfield 83, 3) := by decide +kernel
theorem d_Md_empty_18 : decode b_Md_empty 18 = .ok (.aload_n 0, 1) := by decide +kernel
theorem d_Md_empty_19 : decode b_Md_empty 19 = .ok (.iconst 0, 1) := by decide +kernel
theorem d_Md_empty_20 : decode b_Md_empty 20 = .ok (.putfield 86, 3) := by decide +kernel
theorem d_Md_empty_23 : decode b_Md_empty 23 = .ok (.iconst 0, 1) := by decide +kernel
theorem d_Md_empty_24 : decode b_Md_empty 24 = .ok (.istore_n 1, 1) := by decide +kernel
theorem d_Md_empty_25 : decode b_Md_empty 25 = .ok (.iload_n 1, 1) := by decide +kernel
theorem d_Md_empty_26 : decode b_Md_empty 26 = .ok (.sipush 15625, 3) := by decide +kernel
theorem d_Md_empty_29 : decode b_Md_empty 29 = .ok (.if_icmp .ge 16, 3) := by decide +kernel
theorem d_Md_empty_32 : decode b_Md_empty 32 = .ok (.aload_n 0, 1) := by decide +kernel
theorem d_Md_empty_33 : decode b_Md_empty 33 = .ok (.getfield 7, 3) := by decide +kernel
theorem d_Md_empty_36 : decode b_Md_empty 36 = .ok (.iload_n 1, 1) := by decide +kernel
theorem d_Md_empty_37 : decode b_Md_empty 37 = .ok (.iconst 0, 1) := by decide +kernel
theorem d_Md_empty_38 : decode b_Md_empty 38 = .ok (.iastore, 1) := by decide +kernel
theorem d_Md_empty_39 : decode b_Md_empty 39 = .ok (.iinc 1 1, 3) := by decide +kernel
theorem d_Md_empty_42 : decode b_Md_empty 42 = .ok (.goto (-17), 3) := by decide +kernel
theorem d_Md_empty_45 : decode b_Md_empty 45 = .ok (.iconst 0, 1) := by decide +kernel
theorem d_Md_empty_46 : decode b_Md_empty 46 = .ok (.istore_n 1, 1) := by decide +kernel
theorem d_Md_empty_47 : decode b_Md_empty 47 = .ok (.iload_n 1, 1) := by decide +kernel
theorem d_Md_empty_48 : decode b_Md_empty 48 = .ok (.aload_n 0, 1) := by decide +kernel
theorem d_Md_empty_49 : decode b_Md_empty 49 = .ok (.getfield 70, 3) := by decide +kernel
theorem d_Md_empty_52 : decode b_Md_empty 52 = .ok (.if_icmp .ge 22, 3) := by decide +kernel
theorem d_Md_empty_55 : decode b_Md_empty 55 = .ok (.aload_n 0, 1) := by decide +kernel
theorem d_Md_empty_56 : decode b_Md_empty 56 = .ok (.getfield 13, 3) := by decide +kernel
theorem d_Md_empty_59 : decode b_Md_empty 59 = .ok (.iload_n 1, 1) := by decide +kernel
theorem d_Md_empty_60 : decode b_Md_empty 60 = .ok (.dup2, 1) := by decide +kernel
theorem d_Md_empty_61 : decode b_Md_empty 61 = .ok (.iaload, 1) := by decide +kernel
theorem d_Md_empty_62 : decode b_Md_empty 62 = .ok (.aload_n 0, 1) := by decide +kernel
theorem d_Md_empty_63 : decode b_Md_empty 63 = .ok (.invokevirtual 115, 3) := by decide +kernel
theorem d_Md_empty_66 : decode b_Md_empty 66 = .ok (.iand, 1) := by decide +kernel
theorem d_Md_empty_67 : decode b_Md_empty 67 = .ok (.iastore, 1) := by decide +kernel
theorem d_Md_empty_68 : decode b_Md_empty 68 = .ok (.iinc 1 1, 3) := by decide +kernel
theorem d_Md_empty_71 : decode b_Md_empty 71 = .ok (.goto (-24), 3) := by decide +kernel
theorem d_Md_empty_74 : decode b_Md_empty 74 = .ok (.return_, 1) := by decide +kernel
theorem d_Md_dropBit_0 : decode b_Md_dropBit 0 = .ok (.aload_n 0, 1) := by decide +kernel
theorem d_Md_dropBit_1 : decode b_Md_dropBit 1 = .ok (.dup, 1) := by decide +kernel
theorem d_Md_dropBit_2 : decode b_Md_dropBit 2 = .ok (.getfield 83, 3) := by decide +kernel
theorem d_Md_dropBit_5 : decode b_Md_dropBit 5 = .ok (.iconst 1, 1) := by decide +kernel
theorem d_Md_dropBit_6 : decode b_Md_dropBit 6 = .ok (.iload_n 1, 1) := by decide +kernel
theorem d_Md_dropBit_7 : decode b_Md_dropBit 7 = .ok (.ishl, 1) := by decide +kernel
theorem d_Md_dropBit_8 : decode b_Md_dropBit 8 = .ok (.iconst (-1), 1) := by decide +kernel
theorem d_Md_dropBit_9 : decode b_Md_dropBit 9 = .ok (.ixor, 1) := by decide +kernel
theorem d_Md_dropBit_10 : decode b_Md_dropBit 10 = .ok (.iand, 1) := by decide +kernel
theorem d_Md_dropBit_11 : decode b_Md_dropBit 11 = .ok (.putfield 83, 3) := by decide +kernel
theorem d_Md_dropBit_14 : decode b_Md_dropBit 14 = .ok (.iconst 0, 1) := by decide +kernel
theorem d_Md_dropBit_15 : decode b_Md_dropBit 15 = .ok (.istore_n 2, 1) := by decide +kernel
theorem d_Md_dropBit_16 : decode b_Md_dropBit 16 = .ok (.iload_n 2, 1) := by decide +kernel
theorem d_Md_dropBit_17 : decode b_Md_dropBit 17 = .ok (.bipush 24, 2) := by decide +kernel
theorem d_Md_dropBit_19 : decode b_Md_dropBit 19 = .ok (.if_icmp .ge 42, 3) := by decide +kernel
theorem d_Md_dropBit_22 : decode b_Md_dropBit 22 = .ok (.iconst 0, 1) := by decide +kernel
theorem d_Md_dropBit_23 : decode b_Md_dropBit 23 = .ok (.istore_n 3, 1) := by decide +kernel
theorem d_Md_dropBit_24 : decode b_Md_dropBit 24 = .ok (.iload_n 3, 1) := by decide +kernel
theorem d_Md_dropBit_25 : decode b_Md_dropBit 25 = .ok (.iload_n 2, 1) := by decide +kernel
theorem d_Md_dropBit_26 : decode b_Md_dropBit 26 = .ok (.if_icmp .gt 29, 3) := by decide +kernel
theorem d_Md_dropBit_29 : decode b_Md_dropBit 29 = .ok (.aload_n 0, 1) := by decide +kernel
theorem d_Md_dropBit_30 : decode b_Md_dropBit 30 = .ok (.getfield 7, 3) := by decide +kernel
theorem d_Md_dropBit_33 : decode b_Md_dropBit 33 = .ok (.iconst 1, 1) := by decide +kernel
theorem d_Md_dropBit_34 : decode b_Md_dropBit 34 = .ok (.iload_n 1, 1) := by decide +kernel
theorem d_Md_dropBit_35 : decode b_Md_dropBit 35 = .ok (.ishl, 1) := by decide +kernel
theorem d_Md_dropBit_36 : decode b_Md_dropBit 36 = .ok (.iconst 1, 1) := by decide +kernel
theorem d_Md_dropBit_37 : decode b_Md_dropBit 37 = .ok (.iload_n 2, 1) := by decide +kernel
theorem d_Md_dropBit_38 : decode b_Md_dropBit 38 = .ok (.ishl, 1) := by decide +kernel
theorem d_Md_dropBit_39 : decode b_Md_dropBit 39 = .ok (.ior, 1) := by decide +kernel
theorem d_Md_dropBit_40 : decode b_Md_dropBit 40 = .ok (.iconst 1, 1) := by decide +kernel
theorem d_Md_dropBit_41 : decode b_Md_dropBit 41 = .ok (.iload_n 3, 1) := by decide +kernel
theorem d_Md_dropBit_42 : decode b_Md_dropBit 42 = .ok (.ishl, 1) := by decide +kernel
theorem d_Md_dropBit_43 : decode b_Md_dropBit 43 = .ok (.ior, 1) := by decide +kernel
theorem d_Md_dropBit_44 : decode b_Md_dropBit 44 = .ok (.invokestatic 52, 3) := by decide +kernel
theorem d_Md_dropBit_47 : decode b_Md_dropBit 47 = .ok (.iconst 0, 1) := by decide +kernel
theorem d_Md_dropBit_48 : decode b_Md_dropBit 48 = .ok (.iastore, 1) := by decide +kernel
theorem d_Md_dropBit_49 : decode b_Md_dropBit 49 = .ok (.iinc 3 1, 3) := by decide +kernel
theorem d_Md_dropBit_52 : decode b_Md_dropBit 52 = .ok (.goto (-28), 3) := by decide +kernel
theorem d_Md_dropBit_55 : decode b_Md_dropBit 55 = .ok (.iinc 2 1, 3) := by decide +kernel
theorem d_Md_dropBit_58 : decode b_Md_dropBit 58 = .ok (.goto (-42), 3) := by decide +kernel
theorem d_Md_dropBit_61 : decode b_Md_dropBit 61 = .ok (.return_, 1) := by decide +kernel
theorem d_Md_greatest_0 : decode b_Md_greatest 0 = .ok (.bipush 23, 2) := by decide +kernel
theorem d_Md_greatest_2 : decode b_Md_greatest 2 = .ok (.istore_n 1, 1) := by decide +kernel
theorem d_Md_greatest_3 : decode b_Md_greatest 3 = .ok (.iload_n 0, 1) := by decide +kernel
theorem d_Md_greatest_4 : decode b_Md_greatest 4 = .ok (.iload_n 1, 1) := by decide +kernel
theorem d_Md_greatest_5 : decode b_Md_greatest 5 = .ok (.ishr, 1) := by decide +kernel
theorem d_Md_greatest_6 : decode b_Md_greatest 6 = .ok (.iconst 1, 1) := by decide +kernel
theorem d_Md_greatest_7 : decode b_Md_greatest 7 = .ok (.iand, 1) := by decide +kernel
theorem d_Md_greatest_8 : decode b_Md_greatest 8 = .ok (.ifCond .ne 9, 3) := by decide +kernel
theorem d_Md_greatest_11 : decode b_Md_greatest 11 = .ok (.iinc 1 (-1), 3) := by decide +kernel
theorem d_Md_greatest_14 : decode b_Md_greatest 14 = .ok (.goto (-11), 3) := by decide +kernel
theorem d_Md_greatest_17 : decode b_Md_greatest 17 = .ok (.iload_n 1, 1) := by decide +kernel
theorem d_Md_greatest_18 : decode b_Md_greatest 18 = .ok (.ireturn, 1) := by decide +kernel
theorem d_Md_become_0 : decode b_Md_become 0 = .ok (.iconst 0, 1) := by decide +kernel
theorem d_Md_become_1 : decode b_Md_become 1 = .ok (.istore 4, 2) := by decide +kernel
theorem d_Md_become_3 : decode b_Md_become 3 = .ok (.iconst 0, 1) := by decide +kernel
theorem d_Md_become_4 : decode b_Md_become 4 = .ok (.istore 5, 2) := by decide +kernel
theorem d_Md_become_6 : decode b_Md_become 6 = .ok (.iload 5, 2) := by decide +kernel
theorem d_Md_become_8 : decode b_Md_become 8 = .ok (.bipush 24, 2) := by decide +kernel
theorem d_Md_become_10 : decode b_Md_become 10 = .ok (.if_icmp .ge 121, 3) := by decide +kernel
theorem d_Md_become_13 : decode b_Md_become 13 = .ok (.iconst 0, 1) := by decide +kernel
theorem d_Md_become_14 : decode b_Md_become 14 = .ok (.istore 6, 2) := by decide +kernel
theorem d_Md_become_16 : decode b_Md_become 16 = .ok (.iload 6, 2) := by decide +kernel
theorem d_Md_become_18 : decode b_Md_become 18 = .ok (.iload 5, 2) := by decide +kernel
theorem d_Md_become_20 : decode b_Md_become 20 = .ok (.if_icmp .gt 105, 3) := by decide +kernel
theorem d_Md_become_23 : decode b_Md_become 23 = .ok (.iconst 1, 1) := by decide +kernel
theorem d_Md_become_24 : decode b_Md_become 24 = .ok (.iload 5, 2) := by decide +kernel
theorem d_Md_become_26 : decode b_Md_become 26 = .ok (.ishl, 1) := by decide +kernel
theorem d_Md_become_27 : decode b_Md_become 27 = .ok (.iconst 1, 1) := by decide +kernel
theorem d_Md_become_28 : decode b_Md_become 28 = .ok (.iload 6, 2) := by decide +kernel
theorem d_Md_become_30 : decode b_Md_become 30 = .ok (.ishl, 1) := by decide +kernel
theorem d_Md_become_31 : decode b_Md_become 31 = .ok (.ior, 1) := by decide +kernel
theorem d_Md_become_32 : decode b_Md_become 32 = .ok (.iconst 1, 1) := by decide +kernel
theorem d_Md_become_33 : decode b_Md_become 33 = .ok (.iload_n 1, 1) := by decide +kernel
theorem d_Md_become_34 : decode b_Md_become 34 = .ok (.ishl, 1) := by decide +kernel
theorem d_Md_become_35 : decode b_Md_become 35 = .ok (.iconst (-1), 1) := by decide +kernel
theorem d_Md_become_36 : decode b_Md_become 36 = .ok (.ixor, 1) := by decide +kernel
theorem d_Md_become_37 : decode b_Md_become 37 = .ok (.iand, 1) := by decide +kernel
theorem d_Md_become_38 : decode b_Md_become 38 = .ok (.istore 7, 2) := by decide +kernel
theorem d_Md_become_40 : decode b_Md_become 40 = .ok (.iload 5, 2) := by decide +kernel
theorem d_Md_become_42 : decode b_Md_become 42 = .ok (.iload_n 1, 1) := by decide +kernel
theorem d_Md_become_43 : decode b_Md_become 43 = .ok (.if_icmp .ne 17, 3) := by decide +kernel
theorem d_Md_become_46 : decode b_Md_become 46 = .ok (.iload 6, 2) := by decide +kernel
theorem d_Md_become_48 : decode b_Md_become 48 = .ok (.iload_n 1, 1) := by decide +kernel
theorem d_Md_become_49 : decode b_Md_become 49 = .ok (.if_icmp .ne 7, 3) := by decide +kernel
theorem d_Md_become_52 : decode b_Md_become 52 = .ok (.iconst 1, 1) := by decide +kernel
theorem d_Md_become_53 : decode b_Md_become 53 = .ok (.goto 18, 3) := by decide +kernel
theorem d_Md_become_56 : decode b_Md_become 56 = .ok (.iconst 0, 1) := by decide +kernel
theorem d_Md_become_57 : decode b_Md_become 57 = .ok (.goto 14, 3) := by decide +kernel
theorem d_Md_become_60 : decode b_Md_become 60 = .ok (.iload 6, 2) := by decide +kernel
theorem d_Md_become_62 : decode b_Md_become 62 = .ok (.iload_n 1, 1) := by decide +kernel
theorem d_Md_become_63 : decode b_Md_become 63 = .ok (.if_icmp .eq 7, 3) := by decide +kernel
theorem d_Md_become_66 : decode b_Md_become 66 = .ok (.iconst 1, 1) := by decide +kernel
theorem d_Md_become_67 : decode b_Md_become 67 = .ok (.goto 4, 3) := by decide +kernel
theorem d_Md_become_70 : decode b_Md_become 70 = .ok (.iconst 0, 1) := by decide +kernel
theorem d_Md_become_71 : decode b_Md_become 71 = .ok (.istore 8, 2) := by decide +kernel
theorem d_Md_become_73 : decode b_Md_become 73 = .ok (.aload_n 0, 1) := by decide +kernel
theorem d_Md_become_74 : decode b_Md_become 74 = .ok (.iload 7, 2) := by decide +kernel
theorem d_Md_become_76 : decode b_Md_become 76 = .ok (.iconst 1, 1) := by decide +kernel
theorem d_Md_become_77 : decode b_Md_become 77 = .ok (.iload_n 1, 1) := by decide +kernel
theorem d_Md_become_78 : decode b_Md_become 78 = .ok (.ishl, 1) := by decide +kernel
theorem d_Md_become_79 : decode b_Md_become 79 = .ok (.ior, 1) := by decide +kernel
theorem d_Md_become_80 : decode b_Md_become 80 = .ok (.invokevirtual 119, 3) := by decide +kernel
theorem d_Md_become_83 : decode b_Md_become 83 = .ok (.istore 9, 2) := by decide +kernel
theorem d_Md_become_85 : decode b_Md_become 85 = .ok (.iload 8, 2) := by decide +kernel
theorem d_Md_become_87 : decode b_Md_become 87 = .ok (.ifCond .eq 32, 3) := by decide +kernel
theorem d_Md_become_90 : decode b_Md_become 90 = .ok (.iload 9, 2) := by decide +kernel
theorem d_Md_become_92 : decode b_Md_become 92 = .ok (.ifCond .ne 6, 3) := by decide +kernel
theorem d_Md_become_95 : decode b_Md_become 95 = .ok (.goto 24, 3) := by decide +kernel
theorem d_Md_become_98 : decode b_Md_become 98 = .ok (.aload_n 0, 1) := by decide +kernel
theorem d_Md_become_99 : decode b_Md_become 99 = .ok (.getfield 28, 3) := by decide +kernel
theorem d_Md_become_102 : decode b_Md_become 102 = .ok (.iload 4, 2) := by decide +kernel
theorem d_Md_become_104 : decode b_Md_become 104 = .ok (.iload 7, 2) := by decide +kernel
theorem d_Md_become_106 : decode b_Md_become 106 = .ok (.iastore, 1) := by decide +kernel
theorem d_Md_become_107 : decode b_Md_become 107 = .ok (.aload_n 0, 1) := by decide +kernel
theorem d_Md_become_108 : decode b_Md_become 108 = .ok (.getfield 31, 3) := by decide +kernel
theorem d_Md_become_111 : decode b_Md_become 111 = .ok (.iload 4, 2) := by decide +kernel
theorem d_Md_become_113 : decode b_Md_become 113 = .ok (.iload 9, 2) := by decide +kernel
theorem d_Md_become_115 : decode b_Md_become 115 = .ok (.iastore, 1) := by decide +kernel
theorem d_Md_become_116 : decode b_Md_become 116 = .ok (.iinc 4 1, 3) := by decide +kernel
theorem d_Md_become_119 : decode b_Md_become 119 = .ok (.iinc 6 1, 3) := by decide +kernel
theorem d_Md_become_122 : decode b_Md_become 122 = .ok (.goto (-106), 3) := by decide +kernel
theorem d_Md_become_125 : decode b_Md_become 125 = .ok (.iinc 5 1, 3) := by decide +kernel
theorem d_Md_become_128 : decode b_Md_become 128 = .ok (.goto (-122), 3) := by decide +kernel
theorem d_Md_become_131 : decode b_Md_become 131 = .ok (.aload_n 0, 1) := by decide +kernel
theorem d_Md_become_132 : decode b_Md_become 132 = .ok (.iload_n 1, 1) := by decide +kernel
theorem d_Md_become_133 : decode b_Md_become 133 = .ok (.invokevirtual 134, 3) := by decide +kernel
theorem d_Md_become_136 : decode b_Md_become 136 = .ok (.iconst 0, 1) := by decide +kernel
theorem d_Md_become_137 : decode b_Md_become 137 = .ok (.istore 5, 2) := by decide +kernel
theorem d_Md_become_139 : decode b_Md_become 139 = .ok (.iload 5, 2) := by decide +kernel
theorem d_Md_become_141 : decode b_Md_become 141 = .ok (.iload 4, 2) := by decide +kernel
theorem d_Md_become_143 : decode b_Md_become 143 = .ok (.if_icmp .ge 29, 3) := by decide +kernel
theorem d_Md_become_146 : decode b_Md_become 146 = .ok (.aload_n 0, 1) := by decide +kernel
theorem d_Md_become_147 : decode b_Md_become 147 = .ok (.iload_n 2, 1) := by decide +kernel
theorem d_Md_become_148 : decode b_Md_become 148 = .ok (.iload_n 3, 1) := by decide +kernel
theorem d_Md_become_149 : decode b_Md_become 149 = .ok (.aload_n 0, 1) := by decide +kernel
theorem d_Md_become_150 : decode b_Md_become 150 = .ok (.getfield 31, 3) := by decide +kernel
theorem d_Md_become_153 : decode b_Md_become 153 = .ok (.iload 5, 2) := by decide +kernel
theorem d_Md_become_155 : decode b_Md_become 155 = .ok (.iaload, 1) := by decide +kernel
theorem d_Md_become_156 : decode b_Md_become 156 = .ok (.aload_n 0, 1) := by decide +kernel
theorem d_Md_become_157 : decode b_Md_become 157 = .ok (.getfield 28, 3) := by decide +kernel
theorem d_Md_become_160 : decode b_Md_become 160 = .ok (.iload 5, 2) := by decide +kernel
theorem d_Md_become_162 : decode b_Md_become 162 = .ok (.iaload, 1) := by decide +kernel
theorem d_Md_become_163 : decode b_Md_become 163 = .ok (.invokevirtual 111, 3) := by decide +kernel
theorem d_Md_become_166 : decode b_Md_become 166 = .ok (.iinc 5 1, 3) := by decide +kernel
theorem d_Md_become_169 : decode b_Md_become 169 = .ok (.goto (-30), 3) := by decide +kernel
theorem d_Md_become_172 : decode b_Md_become 172 = .ok (.iconst 0, 1) := by decide +kernel
theorem d_Md_become_173 : decode b_Md_become 173 = .ok (.istore 5, 2) := by decide +kernel
theorem d_Md_become_175 : decode b_Md_become 175 = .ok (.iload 5, 2) := by decide +kernel
theorem d_Md_become_177 : decode b_Md_become 177 = .ok (.aload_n 0, 1) := by decide +kernel
theorem d_Md_become_178 : decode b_Md_become 178 = .ok (.getfield 70, 3) := by decide +kernel
theorem d_Md_become_181 : decode b_Md_become 181 = .ok (.if_icmp .ge 59, 3) := by decide +kernel
theorem d_Md_become_184 : decode b_Md_become 184 = .ok (.aload_n 0, 1) := by decide +kernel
theorem d_Md_become_185 : decode b_Md_become 185 = .ok (.getfield 13, 3) := by decide +kernel
theorem d_Md_become_188 : decode b_Md_become 188 = .ok (.iload 5, 2) := by decide +kernel
theorem d_Md_become_190 : decode b_Md_become 190 = .ok (.iaload, 1) := by decide +kernel
theorem d_Md_become_191 : decode b_Md_become 191 = .ok (.iload_n 1, 1) := by decide +kernel
theorem d_Md_become_192 : decode b_Md_become 192 = .ok (.ishr, 1) := by decide +kernel
theorem d_Md_become_193 : decode b_Md_become 193 = .ok (.iconst 1, 1) := by decide +kernel
theorem d_Md_become_194 : decode b_Md_become 194 = .ok (.iand, 1) := by decide +kernel
theorem d_Md_become_195 : decode b_Md_become 195 = .ok (.ifCond .ne 6, 3) := by decide +kernel
theorem d_Md_become_198 : decode b_Md_become 198 = .ok (.goto 36, 3) := by decide +kernel
theorem d_Md_become_201 : decode b_Md_become 201 = .ok (.aload_n 0, 1) := by decide +kernel
theorem d_Md_become_202 : decode b_Md_become 202 = .ok (.getfield 13, 3) := by decide +kernel
theorem d_Md_become_205 : decode b_Md_become 205 = .ok (.iload 5, 2) := by decide +kernel
theorem d_Md_become_207 : decode b_Md_become 207 = .ok (.aload_n 0, 1) := by decide +kernel
theorem d_Md_become_208 : decode b_Md_become 208 = .ok (.getfield 13, 3) := by decide +kernel
theorem d_Md_become_211 : decode b_Md_become 211 = .ok (.iload 5, 2) := by decide +kernel
theorem d_Md_become_213 : decode b_Md_become 213 = .ok (.iaload, 1) := by decide +kernel
theorem d_Md_become_214 : decode b_Md_become 214 = .ok (.iconst 1, 1) := by decide +kernel
theorem d_Md_become_215 : decode b_Md_become 215 = .ok (.iload_n 1, 1) := by decide +kernel
theorem d_Md_become_216 : decode b_Md_become 216 = .ok (.ishl, 1) := by decide +kernel
theorem d_Md_become_217 : decode b_Md_become 217 = .ok (.iconst (-1), 1) := by decide +kernel
theorem d_Md_become_218 : decode b_Md_become 218 = .ok (.ixor, 1) := by decide +kernel
theorem d_Md_become_219 : decode b_Md_become 219 = .ok (.iand, 1) := by decide +kernel
theorem d_Md_become_220 : decode b_Md_become 220 = .ok (.iload_n 2, 1) := by decide +kernel
theorem d_Md_become_221 : decode b_Md_become 221 = .ok (.ixor, 1) := by decide +kernel
theorem d_Md_become_222 : decode b_Md_become 222 = .ok (.iastore, 1) := by decide +kernel
theorem d_Md_become_223 : decode b_Md_become 223 = .ok (.aload_n 0, 1) := by decide +kernel
theorem d_Md_become_224 : decode b_Md_become 224 = .ok (.getfield 16, 3) := by decide +kernel
theorem d_Md_become_227 : decode b_Md_become 227 = .ok (.iload 5, 2) := by decide +kernel
theorem d_Md_become_229 : decode b_Md_become 229 = .ok (.dup2, 1) := by decide +kernel
theorem d_Md_become_230 : decode b_Md_become 230 = .ok (.iaload, 1) := by decide +kernel
theorem d_Md_become_231 : decode b_Md_become 231 = .ok (.iload_n 3, 1) := by decide +kernel
theorem d_Md_become_232 : decode b_Md_become 232 = .ok (.ixor, 1) := by decide +kernel
theorem d_Md_become_233 : decode b_Md_become 233 = .ok (.iastore, 1) := by decide +kernel
theorem d_Md_become_234 : decode b_Md_become 234 = .ok (.iinc 5 1, 3) := by decide +kernel
theorem d_Md_become_237 : decode b_Md_become 237 = .ok (.goto (-62), 3) := by decide +kernel
theorem d_Md_become_240 : decode b_Md_become 240 = .ok (.return_, 1) := by decide +kernel
theorem d_Md_doRule_0 : decode b_Md_doRule 0 = .ok (.iconst (-1), 1) := by decide +kernel
theorem d_Md_doRule_1 : decode b_Md_doRule 1 = .ok (.istore_n 3, 1) := by decide +kernel
theorem d_Md_doRule_2 : decode b_Md_doRule 2 = .ok (.aload_n 0, 1) := by decide +kernel
theorem d_Md_doRule_3 : decode b_Md_doRule 3 = .ok (.getfield 125, 3) := by decide +kernel
theorem d_Md_doRule_6 : decode b_Md_doRule 6 = .ok (.istore 4, 2) := by decide +kernel
theorem d_Md_doRule_8 : decode b_Md_doRule 8 = .ok (.aload_n 0, 1) := by decide +kernel
theorem d_Md_doRule_9 : decode b_Md_doRule 9 = .ok (.getfield 122, 3) := by decide +kernel
theorem d_Md_doRule_12 : decode b_Md_doRule 12 = .ok (.istore 5, 2) := by decide +kernel
theorem d_Md_doRule_14 : decode b_Md_doRule 14 = .ok (.iload_n 1, 1) := by decide +kernel
theorem d_Md_doRule_15 : decode b_Md_doRule 15 = .ok (.iconst 2, 1) := by decide +kernel
theorem d_Md_doRule_16 : decode b_Md_doRule 16 = .ok (.if_icmp .ne 10, 3) := by decide +kernel
theorem d_Md_doRule_19 : decode b_Md_doRule 19 = .ok (.aload_n 0, 1) := by decide +kernel
theorem d_Md_doRule_20 : decode b_Md_doRule 20 = .ok (.invokevirtual 137, 3) := by decide +kernel
theorem d_Md_doRule_23 : decode b_Md_doRule 23 = .ok (.goto 27, 3) := by decide +kernel
theorem d_Md_doRule_26 : decode b_Md_doRule 26 = .ok (.aload_n 0, 1) := by decide +kernel
theorem d_Md_doRule_27 : decode b_Md_doRule 27 = .ok (.iload_n 2, 1) := by decide +kernel
theorem d_Md_doRule_28 : decode b_Md_doRule 28 = .ok (.invokevirtual 134, 3) := by decide +kernel
theorem d_Md_doRule_31 : decode b_Md_doRule 31 = .ok (.aload_n 0, 1) := by decide +kernel
theorem d_Md_doRule_32 : decode b_Md_doRule 32 = .ok (.dup, 1) := by decide +kernel
theorem d_Md_doRule_33 : decode b_Md_doRule 33 = .ok (.getfield 86, 3) := by decide +kernel
theorem d_Md_doRule_36 : decode b_Md_doRule 36 = .ok (.iload_n 1, 1) := by decide +kernel
theorem d_Md_doRule_37 : decode b_Md_doRule 37 = .ok (.iconst 4, 1) := by decide +kernel
theorem d_Md_doRule_38 : decode b_Md_doRule 38 = .ok (.if_icmp .ne 7, 3) := by decide +kernel
theorem d_Md_doRule_41 : decode b_Md_doRule 41 = .ok (.iconst 1, 1) := by decide +kernel
theorem d_Md_doRule_42 : decode b_Md_doRule 42 = .ok (.goto 4, 3) := by decide +kernel
theorem d_Md_doRule_45 : decode b_Md_doRule 45 = .ok (.iconst 2, 1) := by decide +kernel
theorem d_Md_doRule_46 : decode b_Md_doRule 46 = .ok (.isub, 1) := by decide +kernel
theorem d_Md_doRule_47 : decode b_Md_doRule 47 = .ok (.putfield 86, 3) := by decide +kernel
theorem d_Md_doRule_50 : decode b_Md_doRule 50 = .ok (.iload_n 1, 1) := by decide +kernel
theorem d_Md_doRule_51 : decode b_Md_doRule 51 = .ok (.iconst 3, 1) := by decide +kernel
theorem d_Md_doRule_52 : decode b_Md_doRule 52 = .ok (.if_icmp .ne 40, 3) := by decide +kernel
theorem d_Md_doRule_55 : decode b_Md_doRule 55 = .ok (.iload 4, 2) := by decide +kernel
theorem d_Md_doRule_57 : decode b_Md_doRule 57 = .ok (.aload_n 0, 1) := by decide +kernel
theorem d_Md_doRule_58 : decode b_Md_doRule 58 = .ok (.invokevirtual 115, 3) := by decide +kernel
theorem d_Md_doRule_61 : decode b_Md_doRule 61 = .ok (.iconst (-1), 1) := by decide +kernel
theorem d_Md_doRule_62 : decode b_Md_doRule 62 = .ok (.ixor, 1) := by decide +kernel
theorem d_Md_doRule_63 : decode b_Md_doRule 63 = .ok (.iand, 1) := by decide +kernel
theorem d_Md_doRule_64 : decode b_Md_doRule 64 = .ok (.invokestatic 140, 3) := by decide +kernel
theorem d_Md_doRule_67 : decode b_Md_doRule 67 = .ok (.istore_n 3, 1) := by decide +kernel
theorem d_Md_doRule_68 : decode b_Md_doRule 68 = .ok (.aload_n 0, 1) := by decide +kernel
theorem d_Md_doRule_69 : decode b_Md_doRule 69 = .ok (.iload_n 3, 1) := by decide +kernel
theorem d_Md_doRule_70 : decode b_Md_doRule 70 = .ok (.iload 4, 2) := by decide +kernel
theorem d_Md_doRule_72 : decode b_Md_doRule 72 = .ok (.iconst 1, 1) := by decide +kernel
theorem d_Md_doRule_73 : decode b_Md_doRule 73 = .ok (.iload_n 3, 1) := by decide +kernel
theorem d_Md_doRule_74 : decode b_Md_doRule 74 = .ok (.ishl, 1) := by decide +kernel
theorem d_Md_doRule_75 : decode b_Md_doRule 75 = .ok (.iconst (-1), 1) := by decide +kernel
theorem d_Md_doRule_76 : decode b_Md_doRule 76 = .ok (.ixor, 1) := by decide +kernel
theorem d_Md_doRule_77 : decode b_Md_doRule 77 = .ok (.iand, 1) := by decide +kernel
theorem d_Md_doRule_78 : decode b_Md_doRule 78 = .ok (.iload 5, 2) := by decide +kernel
theorem d_Md_doRule_80 : decode b_Md_doRule 80 = .ok (.iconst 4, 1) := by decide +kernel
theorem d_Md_doRule_81 : decode b_Md_doRule 81 = .ok (.if_icmp .ne 7, 3) := by decide +kernel
theorem d_Md_doRule_84 : decode b_Md_doRule 84 = .ok (.iconst 1, 1) := by decide +kernel
theorem d_Md_doRule_85 : decode b_Md_doRule 85 = .ok (.goto 4, 3) := by decide +kernel
theorem d_Md_doRule_88 : decode b_Md_doRule 88 = .ok (.iconst 0, 1) := by decide +kernel
theorem d_Md_doRule_89 : decode b_Md_doRule 89 = .ok (.invokevirtual 143, 3) := by decide +kernel
theorem d_Md_doRule_92 : decode b_Md_doRule 92 = .ok (.iload_n 1, 1) := by decide +kernel
theorem d_Md_doRule_93 : decode b_Md_doRule 93 = .ok (.iconst 4, 1) := by decide +kernel
theorem d_Md_doRule_94 : decode b_Md_doRule 94 = .ok (.if_icmp .ne 40, 3) := by decide +kernel
theorem d_Md_doRule_97 : decode b_Md_doRule 97 = .ok (.aload_n 0, 1) := by decide +kernel
theorem d_Md_doRule_98 : decode b_Md_doRule 98 = .ok (.iconst 0, 1) := by decide +kernel
theorem d_Md_doRule_99 : decode b_Md_doRule 99 = .ok (.iload 5, 2) := by decide +kernel
theorem d_Md_doRule_101 : decode b_Md_doRule 101 = .ok (.iconst 2, 1) := by decide +kernel
theorem d_Md_doRule_102 : decode b_Md_doRule 102 = .ok (.if_icmp .ne 7, 3) := by decide +kernel
theorem d_Md_doRule_105 : decode b_Md_doRule 105 = .ok (.iconst 1, 1) := by decide +kernel
theorem d_Md_doRule_106 : decode b_Md_doRule 106 = .ok (.goto 5, 3) := by decide +kernel
theorem d_Md_doRule_109 : decode b_Md_doRule 109 = .ok (.bipush 7, 2) := by decide +kernel
theorem d_Md_doRule_111 : decode b_Md_doRule 111 = .ok (.invokevirtual 59, 3) := by decide +kernel
theorem d_Md_doRule_114 : decode b_Md_doRule 114 = .ok (.aload_n 0, 1) := by decide +kernel
theorem d_Md_doRule_115 : decode b_Md_doRule 115 = .ok (.iload 4, 2) := by decide +kernel
theorem d_Md_doRule_117 : decode b_Md_doRule 117 = .ok (.iconst 0, 1) := by decide +kernel
theorem d_Md_doRule_118 : decode b_Md_doRule 118 = .ok (.iload 5, 2) := by decide +kernel
theorem d_Md_doRule_120 : decode b_Md_doRule 120 = .ok (.iconst 2, 1) := by decide +kernel
theorem d_Md_doRule_121 : decode b_Md_doRule 121 = .ok (.if_icmp .ne 8, 3) := by decide +kernel
theorem d_Md_doRule_124 : decode b_Md_doRule 124 = .ok (.bipush 6, 2) := by decide +kernel
theorem d_Md_doRule_126 : decode b_Md_doRule 126 = .ok (.goto 4, 3) := by decide +kernel
theorem d_Md_doRule_129 : decode b_Md_doRule 129 = .ok (.iconst 2, 1) := by decide +kernel
theorem d_Md_doRule_130 : decode b_Md_doRule 130 = .ok (.iconst 0, 1) := by decide +kernel
theorem d_Md_doRule_131 : decode b_Md_doRule 131 = .ok (.invokevirtual 111, 3) := by decide +kernel
theorem d_Md_doRule_134 : decode b_Md_doRule 134 = .ok (.aload_n 0, 1) := by decide +kernel
theorem d_Md_doRule_135 : decode b_Md_doRule 135 = .ok (.getfield 19, 3) := by decide +kernel
theorem d_Md_doRule_138 : decode b_Md_doRule 138 = .ok (.aload_n 0, 1) := by decide +kernel
theorem d_Md_doRule_139 : decode b_Md_doRule 139 = .ok (.getfield 89, 3) := by decide +kernel
theorem d_Md_doRule_142 : decode b_Md_doRule 142 = .ok (.iload_n 1, 1) := by decide +kernel
theorem d_Md_doRule_143 : decode b_Md_doRule 143 = .ok (.iastore, 1) := by decide +kernel
theorem d_Md_doRule_144 : decode b_Md_doRule 144 = .ok (.aload_n 0, 1) := by decide +kernel
theorem d_Md_doRule_145 : decode b_Md_doRule 145 = .ok (.getfield 22, 3) := by decide +kernel
theorem d_Md_doRule_148 : decode b_Md_doRule 148 = .ok (.aload_n 0, 1) := by decide +kernel
theorem d_Md_doRule_149 : decode b_Md_doRule 149 = .ok (.getfield 89, 3) := by decide +kernel
theorem d_Md_doRule_152 : decode b_Md_doRule 152 = .ok (.iload_n 2, 1) := by decide +kernel
theorem d_Md_doRule_153 : decode b_Md_doRule 153 = .ok (.iastore, 1) := by decide +kernel
theorem d_Md_doRule_154 : decode b_Md_doRule 154 = .ok (.aload_n 0, 1) := by decide +kernel
theorem d_Md_doRule_155 : decode b_Md_doRule 155 = .ok (.getfield 25, 3) := by decide +kernel
theorem d_Md_doRule_158 : decode b_Md_doRule 158 = .ok (.aload_n 0, 1) := by decide +kernel
theorem d_Md_doRule_159 : decode b_Md_doRule 159 = .ok (.getfield 89, 3) := by decide +kernel
theorem d_Md_doRule_162 : decode b_Md_doRule 162 = .ok (.iload_n 3, 1) := by decide +kernel
theorem d_Md_doRule_163 : decode b_Md_doRule 163 = .ok (.iastore, 1) := by decide +kernel
theorem d_Md_doRule_164 : decode b_Md_doRule 164 = .ok (.aload_n 0, 1) := by decide +kernel
theorem d_Md_doRule_165 : decode b_Md_doRule 165 = .ok (.dup, 1) := by decide +kernel
theorem d_Md_doRule_166 : decode b_Md_doRule 166 = .ok (.getfield 89, 3) := by decide +kernel
theorem d_Md_doRule_169 : decode b_Md_doRule 169 = .ok (.iconst 1, 1) := by decide +kernel
theorem d_Md_doRule_170 : decode b_Md_doRule 170 = .ok (.iadd, 1) := by decide +kernel
theorem d_Md_doRule_171 : decode b_Md_doRule 171 = .ok (.putfield 89, 3) := by decide +kernel
theorem d_Md_doRule_174 : decode b_Md_doRule 174 = .ok (.return_, 1) := by decide +kernel
