set_option maxRecDepth 50000 in
theorem gw_230 : Cond.code gm_230.1 gm_230.2.1 gm_230.2.2.1 gm_230.2.2.2.1 ∈ g_tw := g_cw (g_t8 (k := 101) rfl)
theorem gc_230 : g_ckP 230 gm_230 := g_ck_of gw_230 (by decide +kernel)
set_option maxRecDepth 50000 in
theorem gw_231 : Cond.code gm_231.1 gm_231.2.1 gm_231.2.2.1 gm_231.2.2.2.1 ∈ g_tw := g_cw (g_t8 (k := 95) rfl)
theorem gc_231 : g_ckP 231 gm_231 := g_ck_of gw_231 (by decide +kernel)
set_option maxRecDepth 50000 in
theorem gw_232 : Cond.code gm_232.1 gm_232.2.1 gm_232.2.2.1 gm_232.2.2.2.1 ∈ g_tw := g_cw (g_t8 (k := 91) rfl)
theorem gc_232 : g_ckP 232 gm_232 := g_ck_of gw_232 (by decide +kernel)
set_option maxRecDepth 50000 in
theorem gw_233 : Cond.code gm_233.1 gm_233.2.1 gm_233.2.2.1 gm_233.2.2.2.1 ∈ g_tw := g_cw (g_t8 (k := 76) rfl)
theorem gc_233 : g_ckP 233 gm_233 := g_ck_of gw_233 (by decide +kernel)
set_option maxRecDepth 50000 in
theorem gw_234 : Cond.code gm_234.1 gm_234.2.1 gm_234.2.2.1 gm_234.2.2.2.1 ∈ g_tw := g_cw (g_t8 (k := 79) rfl)
theorem gc_234 : g_ckP 234 gm_234 := g_ck_of gw_234 (by decide +kernel)
set_option maxRecDepth 50000 in
theorem gw_235 : Cond.code gm_235.1 gm_235.2.1 gm_235.2.2.1 gm_235.2.2.2.1 ∈ g_tw := g_cw (g_t8 (k := 73) rfl)
theorem gc_235 : g_ckP 235 gm_235 := g_ck_of gw_235 (by decide +kernel)
set_option maxRecDepth 50000 in
theorem gw_236 : Cond.code gm_236.1 gm_236.2.1 gm_236.2.2.1 gm_236.2.2.2.1 ∈ g_tw := g_cw (g_t8 (k := 83) rfl)
theorem gc_236 : g_ckP 236 gm_236 := g_ck_of gw_236 (by decide +kernel)
set_option maxRecDepth 50000 in
theorem gw_237 : Cond.code gm_237.1 gm_237.2.1 gm_237.2.2.1 gm_237.2.2.2.1 ∈ g_tw := g_cw (g_t8 (k := 41) rfl)
theorem gc_237 : g_ckP 237 gm_237 := g_ck_of gw_237 (by decide +kernel)
set_option maxRecDepth 50000 in
theorem gw_238 : Cond.code gm_238.1 gm_238.2.1 gm_238.2.2.1 gm_238.2.2.2.1 ∈ g_tw := g_cw (g_t8 (k := 2) rfl)
theorem gc_238 : g_ckP 238 gm_238 := g_ck_of gw_238 (by decide +kernel)
set_option maxRecDepth 50000 in
theorem gw_239 : Cond.code gm_239.1 gm_239.2.1 gm_239.2.2.1 gm_239.2.2.2.1 ∈ g_tw := g_cw (g_t8 (k := 30) rfl)
theorem gc_239 : g_ckP 239 gm_239 := g_ck_of gw_239 (by decide +kernel)
set_option maxRecDepth 50000 in
theorem gw_240 : Cond.code gm_240.1 gm_240.2.1 gm_240.2.2.1 gm_240.2.2.2.1 ∈ g_tw := g_cw (g_t8 (k := 45) rfl)
theorem gc_240 : g_ckP 240 gm_240 := g_ck_of gw_240 (by decide +kernel)
set_option maxRecDepth 50000 in
theorem gw_241 : Cond.code gm_241.1 gm_241.2.1 gm_241.2.2.1 gm_241.2.2.2.1 ∈ g_tw := g_cw (g_t8 (k := 61) rfl)
theorem gc_241 : g_ckP 241 gm_241 := g_ck_of gw_241 (by decide +kernel)
set_option maxRecDepth 50000 in
theorem gw_242 : Cond.code gm_242.1 gm_242.2.1 gm_242.2.2.1 gm_242.2.2.2.1 ∈ g_tw := g_cw (g_t8 (k := 57) rfl)
theorem gc_242 : g_ckP 242 gm_242 := g_ck_of gw_242 (by decide +kernel)
set_option maxRecDepth 50000 in
theorem gw_243 : Cond.code gm_243.1 gm_243.2.1 gm_243.2.2.1 gm_243.2.2.2.1 ∈ g_tw := g_cw (g_t8 (k := 121) rfl)
theorem gc_243 : g_ckP 243 gm_243 := g_ck_of gw_243 (by decide +kernel)
set_option maxRecDepth 50000 in
theorem gw_244 : Cond.code gm_244.1 gm_244.2.1 gm_244.2.2.1 gm_244.2.2.2.1 ∈ g_tw := g_cw (g_t8 (k := 124) rfl)
theorem gc_244 : g_ckP 244 gm_244 := g_ck_of gw_244 (by decide +kernel)
set_option maxRecDepth 50000 in
theorem gw_245 : Cond.code gm_245.1 gm_245.2.1 gm_245.2.2.1 gm_245.2.2.2.1 ∈ g_tw := g_cw (g_t8 (k := 117) rfl)
theorem gc_245 : g_ckP 245 gm_245 := g_ck_of gw_245 (by decide +kernel)
set_option maxRecDepth 50000 in
theorem gw_246 : Cond.code gm_246.1 gm_246.2.1 gm_246.2.2.1 gm_246.2.2.2.1 ∈ g_tw := g_cw (g_t8 (k := 128) rfl)
theorem gc_246 : g_ckP 246 gm_246 := g_ck_of gw_246 (by decide +kernel)
set_option maxRecDepth 50000 in
theorem gw_247 : Cond.code gm_247.1 gm_247.2.1 gm_247.2.2.1 gm_247.2.2.2.1 ∈ g_tw := g_cw (g_t8 (k := 113) rfl)
theorem gc_247 : g_ckP 247 gm_247 := g_ck_of gw_247 (by decide +kernel)
set_option maxRecDepth 50000 in
theorem gw_248 : Cond.code gm_248.1 gm_248.2.1 gm_248.2.2.1 gm_248.2.2.2.1 ∈ g_tw := g_cw (g_t8 (k := 109) rfl)
theorem gc_248 : g_ckP 248 gm_248 := g_ck_of gw_248 (by decide +kernel)
set_option maxRecDepth 50000 in
theorem gw_249 : Cond.code gm_249.1 gm_249.2.1 gm_249.2.2.1 gm_249.2.2.2.1 ∈ g_tw := g_cw (g_t8 (k := 105) rfl)
theorem gc_249 : g_ckP 249 gm_249 := g_ck_of gw_249 (by decide +kernel)
set_option maxRecDepth 50000 in
theorem gw_250 : Cond.code gm_250.1 gm_250.2.1 gm_250.2.2.1 gm_250.2.2.2.1 ∈ g_tw := g_cw (g_t8 (k := 132) rfl)
theorem gc_250 : g_ckP 250 gm_250 := g_ck_of gw_250 (by decide +kernel)
set_option maxRecDepth 50000 in
theorem gw_251 : Cond.code gm_251.1 gm_251.2.1 gm_251.2.2.1 gm_251.2.2.2.1 ∈ g_tw := g_cw (g_t8 (k := 140) rfl)
theorem gc_251 : g_ckP 251 gm_251 := g_ck_of gw_251 (by decide +kernel)
set_option maxRecDepth 50000 in
theorem gw_252 : Cond.code gm_252.1 gm_252.2.1 gm_252.2.2.1 gm_252.2.2.2.1 ∈ g_tw := g_cw (g_t8 (k := 136) rfl)
theorem gc_252 : g_ckP 252 gm_252 := g_ck_of gw_252 (by decide +kernel)
set_option maxRecDepth 50000 in
theorem gw_253 : Cond.code gm_253.1 gm_253.2.1 gm_253.2.2.1 gm_253.2.2.2.1 ∈ g_tw := g_cw (g_t8 (k := 151) rfl)
theorem gc_253 : g_ckP 253 gm_253 := g_ck_of gw_253 (by decide +kernel)
set_option maxRecDepth 50000 in
theorem gw_254 : Cond.code gm_254.1 gm_254.2.1 gm_254.2.2.1 gm_254.2.2.2.1 ∈ g_tw := g_cw (g_t8 (k := 155) rfl)
theorem gc_254 : g_ckP 254 gm_254 := g_ck_of gw_254 (by decide +kernel)
set_option maxRecDepth 50000 in
theorem gw_255 : Cond.code gm_255.1 gm_255.2.1 gm_255.2.2.1 gm_255.2.2.2.1 ∈ g_tw := g_cw (g_t8 (k := 148) rfl)
theorem gc_255 : g_ckP 255 gm_255 := g_ck_of gw_255 (by decide +kernel)
set_option maxRecDepth 50000 in
theorem gw_256 : Cond.code gm_256.1 gm_256.2.1 gm_256.2.2.1 gm_256.2.2.2.1 ∈ g_tw := g_cw (g_t8 (k := 144) rfl)
theorem gc_256 : g_ckP 256 gm_256 := g_ck_of gw_256 (by decide +kernel)
set_option maxRecDepth 50000 in
theorem gw_257 : Cond.code gm_257.1 gm_257.2.1 gm_257.2.2.1 gm_257.2.2.2.1 ∈ g_tw := g_cw (g_t8 (k := 166) rfl)
theorem gc_257 : g_ckP 257 gm_257 := g_ck_of gw_257 (by decide +kernel)
set_option maxRecDepth 50000 in
theorem gw_258 : Cond.code gm_258.1 gm_258.2.1 gm_258.2.2.1 gm_258.2.2.2.1 ∈ g_tw := g_cw (g_t8 (k := 170) rfl)
theorem gc_258 : g_ckP 258 gm_258 := g_ck_of gw_258 (by decide +kernel)
set_option maxRecDepth 50000 in
theorem gw_259 : Cond.code gm_259.1 gm_259.2.1 gm_259.2.2.1 gm_259.2.2.2.1 ∈ g_tw := g_cw (g_t8 (k := 174) rfl)
theorem gc_259 : g_ckP 259 gm_259 := g_ck_of gw_259 (by decide +kernel)
set_option maxRecDepth 50000 in
theorem gw_260 : Cond.code gm_260.1 gm_260.2.1 gm_260.2.2.1 gm_260.2.2.2.1 ∈ g_tw := g_cw (g_t8 (k := 190) rfl)
theorem gc_260 : g_ckP 260 gm_260 := g_ck_of gw_260 (by decide +kernel)
set_option maxRecDepth 50000 in
theorem gw_261 : Cond.code gm_261.1 gm_261.2.1 gm_261.2.2.1 gm_261.2.2.2.1 ∈ g_tw := g_cw (g_t8 (k := 202) rfl)
theorem gc_261 : g_ckP 261 gm_261 := g_ck_of gw_261 (by decide +kernel)
set_option maxRecDepth 50000 in
theorem gw_262 : Cond.code gm_262.1 gm_262.2.1 gm_262.2.2.1 gm_262.2.2.2.1 ∈ g_tw := g_cw (g_t8 (k := 182) rfl)
theorem gc_262 : g_ckP 262 gm_262 := g_ck_of gw_262 (by decide +kernel)
set_option maxRecDepth 50000 in
theorem gw_263 : Cond.code gm_263.1 gm_263.2.1 gm_263.2.2.1 gm_263.2.2.2.1 ∈ g_tw := g_cw (g_t8 (k := 186) rfl)
theorem gc_263 : g_ckP 263 gm_263 := g_ck_of gw_263 (by decide +kernel)
set_option maxRecDepth 50000 in
theorem gw_264 : Cond.code gm_264.1 gm_264.2.1 gm_264.2.2.1 gm_264.2.2.2.1 ∈ g_tw := g_cw (g_t8 (k := 178) rfl)
theorem gc_264 : g_ckP 264 gm_264 := g_ck_of gw_264 (by decide +kernel)
set_option maxRecDepth 50000 in
theorem gw_265 : Cond.code gm_265.1 gm_265.2.1 gm_265.2.2.1 gm_265.2.2.2.1 ∈ g_tw := g_cw (g_t8 (k := 198) rfl)
theorem gc_265 : g_ckP 265 gm_265 := g_ck_of gw_265 (by decide +kernel)
set_option maxRecDepth 50000 in
theorem gw_266 : Cond.code gm_266.1 gm_266.2.1 gm_266.2.2.1 gm_266.2.2.2.1 ∈ g_tw := g_cw (g_t8 (k := 194) rfl)
theorem gc_266 : g_ckP 266 gm_266 := g_ck_of gw_266 (by decide +kernel)
set_option maxRecDepth 50000 in
theorem gw_267 : Cond.code gm_267.1 gm_267.2.1 gm_267.2.2.1 gm_267.2.2.2.1 ∈ g_tw := g_cw (g_t8 (k := 210) rfl)
theorem gc_267 : g_ckP 267 gm_267 := g_ck_of gw_267 (by decide +kernel)
set_option maxRecDepth 50000 in
theorem gw_268 : Cond.code gm_268.1 gm_268.2.1 gm_268.2.2.1 gm_268.2.2.2.1 ∈ g_tw := g_cw (g_t8 (k := 206) rfl)
theorem gc_268 : g_ckP 268 gm_268 := g_ck_of gw_268 (by decide +kernel)
set_option maxRecDepth 50000 in
theorem gw_269 : Cond.code gm_269.1 gm_269.2.1 gm_269.2.2.1 gm_269.2.2.2.1 ∈ g_tw := g_cw (g_t8 (k := 218) rfl)
theorem gc_269 : g_ckP 269 gm_269 := g_ck_of gw_269 (by decide +kernel)
set_option maxRecDepth 50000 in
theorem gw_270 : Cond.code gm_270.1 gm_270.2.1 gm_270.2.2.1 gm_270.2.2.2.1 ∈ g_tw := g_cw (g_t8 (k := 214) rfl)
theorem gc_270 : g_ckP 270 gm_270 := g_ck_of gw_270 (by decide +kernel)
set_option maxRecDepth 50000 in
theorem gw_271 : Cond.code gm_271.1 gm_271.2.1 gm_271.2.2.1 gm_271.2.2.2.1 ∈ g_tw := g_cw (g_t8 (k := 222) rfl)
theorem gc_271 : g_ckP 271 gm_271 := g_ck_of gw_271 (by decide +kernel)
set_option maxRecDepth 50000 in
theorem gw_272 : Cond.code gm_272.1 gm_272.2.1 gm_272.2.2.1 gm_272.2.2.2.1 ∈ g_tw := g_cw (g_t8 (k := 226) rfl)
theorem gc_272 : g_ckP 272 gm_272 := g_ck_of gw_272 (by decide +kernel)
set_option maxRecDepth 50000 in
theorem gw_273 : Cond.code gm_273.1 gm_273.2.1 gm_273.2.2.1 gm_273.2.2.2.1 ∈ g_tw := g_cw (g_t8 (k := 230) rfl)
theorem gc_273 : g_ckP 273 gm_273 := g_ck_of gw_273 (by decide +kernel)
set_option maxRecDepth 50000 in
theorem gw_274 : Cond.code gm_274.1 gm_274.2.1 gm_274.2.2.1 gm_274.2.2.2.1 ∈ g_tw := g_cw (g_t8 (k := 234) rfl)
theorem gc_274 : g_ckP 274 gm_274 := g_ck_of gw_274 (by decide +kernel)
set_option maxRecDepth 50000 in
theorem gw_275 : Cond.code gm_275.1 gm_275.2.1 gm_275.2.2.1 gm_275.2.2.2.1 ∈ g_tw := g_cw (g_t8 (k := 238) rfl)
theorem gc_275 : g_ckP 275 gm_275 := g_ck_of gw_275 (by decide +kernel)
set_option maxRecDepth 50000 in
theorem gw_276 : Cond.code gm_276.1 gm_276.2.1 gm_276.2.2.1 gm_276.2.2.2.1 ∈ g_tw := g_cw (g_t9 (k := 2) rfl)
theorem gc_276 : g_ckP 276 gm_276 := g_ck_of gw_276 (by decide +kernel)
set_option maxRecDepth 50000 in
theorem gw_277 : Cond.code gm_277.1 gm_277.2.1 gm_277.2.2.1 gm_277.2.2.2.1 ∈ g_tw := g_cw (g_t9 (k := 14) rfl)
theorem gc_277 : g_ckP 277 gm_277 := g_ck_of gw_277 (by decide +kernel)
set_option maxRecDepth 50000 in
theorem gw_278 : Cond.code gm_278.1 gm_278.2.1 gm_278.2.2.1 gm_278.2.2.2.1 ∈ g_tw := g_cw (g_t9 (k := 10) rfl)
theorem gc_278 : g_ckP 278 gm_278 := g_ck_of gw_278 (by decide +kernel)
set_option maxRecDepth 50000 in
theorem gw_279 : Cond.code gm_279.1 gm_279.2.1 gm_279.2.2.1 gm_279.2.2.2.1 ∈ g_tw := g_cw (g_t9 (k := 6) rfl)
theorem gc_279 : g_ckP 279 gm_279 := g_ck_of gw_279 (by decide +kernel)
set_option maxRecDepth 50000 in
theorem gw_280 : Cond.code gm_280.1 gm_280.2.1 gm_280.2.2.1 gm_280.2.2.2.1 ∈ g_tw := g_cw (g_t9 (k := 26) rfl)
theorem gc_280 : g_ckP 280 gm_280 := g_ck_of gw_280 (by decide +kernel)
set_option maxRecDepth 50000 in
theorem gw_281 : Cond.code gm_281.1 gm_281.2.1 gm_281.2.2.1 gm_281.2.2.2.1 ∈ g_tw := g_cw (g_t9 (k := 22) rfl)
theorem gc_281 : g_ckP 281 gm_281 := g_ck_of gw_281 (by decide +kernel)
set_option maxRecDepth 50000 in
theorem gw_282 : Cond.code gm_282.1 gm_282.2.1 gm_282.2.2.1 gm_282.2.2.2.1 ∈ g_tw := g_cw (g_t9 (k := 18) rfl)
theorem gc_282 : g_ckP 282 gm_282 := g_ck_of gw_282 (by decide +kernel)
set_option maxRecDepth 50000 in
theorem gw_283 : Cond.code gm_283.1 gm_283.2.1 gm_283.2.2.1 gm_283.2.2.2.1 ∈ g_tw := g_cw (g_t9 (k := 30) rfl)
theorem gc_283 : g_ckP 283 gm_283 := g_ck_of gw_283 (by decide +kernel)
set_option maxRecDepth 50000 in
theorem gw_284 : Cond.code gm_284.1 gm_284.2.1 gm_284.2.2.1 gm_284.2.2.2.1 ∈ g_tw := g_cw (g_t9 (k := 42) rfl)
theorem gc_284 : g_ckP 284 gm_284 := g_ck_of gw_284 (by decide +kernel)
set_option maxRecDepth 50000 in
theorem gw_285 : Cond.code gm_285.1 gm_285.2.1 gm_285.2.2.1 gm_285.2.2.2.1 ∈ g_tw := g_cw (g_t9 (k := 38) rfl)
theorem gc_285 : g_ckP 285 gm_285 := g_ck_of gw_285 (by decide +kernel)
set_option maxRecDepth 50000 in
theorem gw_286 : Cond.code gm_286.1 gm_286.2.1 gm_286.2.2.1 gm_286.2.2.2.1 ∈ g_tw := g_cw (g_t9 (k := 34) rfl)
theorem gc_286 : g_ckP 286 gm_286 := g_ck_of gw_286 (by decide +kernel)
set_option maxRecDepth 50000 in
theorem gw_287 : Cond.code gm_287.1 gm_287.2.1 gm_287.2.2.1 gm_287.2.2.2.1 ∈ g_tw := g_cw (g_t9 (k := 46) rfl)
theorem gc_287 : g_ckP 287 gm_287 := g_ck_of gw_287 (by decide +kernel)
set_option maxRecDepth 50000 in
theorem gw_288 : Cond.code gm_288.1 gm_288.2.1 gm_288.2.2.1 gm_288.2.2.2.1 ∈ g_tw := g_cw (g_t9 (k := 54) rfl)
theorem gc_288 : g_ckP 288 gm_288 := g_ck_of gw_288 (by decide +kernel)
set_option maxRecDepth 50000 in
theorem gw_289 : Cond.code gm_289.1 gm_289.2.1 gm_289.2.2.1 gm_289.2.2.2.1 ∈ g_tw := g_cw (g_t9 (k := 62) rfl)
theorem gc_289 : g_ckP 289 gm_289 := g_ck_of gw_289 (by decide +kernel)
set_option maxRecDepth 50000 in
theorem gw_290 : Cond.code gm_290.1 gm_290.2.1 gm_290.2.2.1 gm_290.2.2.2.1 ∈ g_tw := g_cw (g_t9 (k := 50) rfl)
theorem gc_290 : g_ckP 290 gm_290 := g_ck_of gw_290 (by decide +kernel)
set_option maxRecDepth 50000 in
theorem gw_291 : Cond.code gm_291.1 gm_291.2.1 gm_291.2.2.1 gm_291.2.2.2.1 ∈ g_tw := g_cw (g_t9 (k := 66) rfl)
theorem gc_291 : g_ckP 291 gm_291 := g_ck_of gw_291 (by decide +kernel)
set_option maxRecDepth 50000 in
theorem gw_292 : Cond.code gm_292.1 gm_292.2.1 gm_292.2.2.1 gm_292.2.2.2.1 ∈ g_tw := g_cw (g_t9 (k := 70) rfl)
theorem gc_292 : g_ckP 292 gm_292 := g_ck_of gw_292 (by decide +kernel)
set_option maxRecDepth 50000 in
theorem gw_296 : Cond.code gm_296.1 gm_296.2.1 gm_296.2.2.1 gm_296.2.2.2.1 ∈ g_tw := g_cw (g_t5 (k := 41) rfl)
theorem gc_296 : g_ckP 296 gm_296 := g_ck_of gw_296 (by decide +kernel)
set_option maxRecDepth 50000 in
theorem gw_300 : Cond.code gm_300.1 gm_300.2.1 gm_300.2.2.1 gm_300.2.2.2.1 ∈ g_tw := g_cw (g_t3 (k := 62) rfl)
theorem gc_300 : g_ckP 300 gm_300 := g_ck_of gw_300 (by decide +kernel)
set_option maxRecDepth 50000 in
theorem gw_301 : Cond.code gm_301.1 gm_301.2.1 gm_301.2.2.1 gm_301.2.2.2.1 ∈ g_tw := g_cw (g_t3 (k := 144) rfl)
theorem gc_301 : g_ckP 301 gm_301 := g_ck_of gw_301 (by decide +kernel)
set_option maxRecDepth 50000 in
theorem gw_302 : Cond.code gm_302.1 gm_302.2.1 gm_302.2.2.1 gm_302.2.2.2.1 ∈ g_tw := g_cw (g_t3 (k := 48) rfl)
theorem gc_302 : g_ckP 302 gm_302 := g_ck_of gw_302 (by decide +kernel)
set_option maxRecDepth 50000 in
theorem gw_303 : Cond.code gm_303.1 gm_303.2.1 gm_303.2.2.1 gm_303.2.2.2.1 ∈ g_tw := g_cw (g_t3 (k := 52) rfl)
theorem gc_303 : g_ckP 303 gm_303 := g_ck_of gw_303 (by decide +kernel)
set_option maxRecDepth 50000 in
theorem gw_304 : Cond.code gm_304.1 gm_304.2.1 gm_304.2.2.1 gm_304.2.2.2.1 ∈ g_tw := g_cw (g_t3 (k := 66) rfl)
theorem gc_304 : g_ckP 304 gm_304 := g_ck_of gw_304 (by decide +kernel)
set_option maxRecDepth 50000 in
theorem gw_305 : Cond.code gm_305.1 gm_305.2.1 gm_305.2.2.1 gm_305.2.2.2.1 ∈ g_tw := g_cw (g_t3 (k := 56) rfl)
theorem gc_305 : g_ckP 305 gm_305 := g_ck_of gw_305 (by decide +kernel)
set_option maxRecDepth 50000 in
theorem gw_306 : Cond.code gm_306.1 gm_306.2.1 gm_306.2.2.1 gm_306.2.2.2.1 ∈ g_tw := g_cw (g_t3 (k := 150) rfl)
theorem gc_306 : g_ckP 306 gm_306 := g_ck_of gw_306 (by decide +kernel)
set_option maxRecDepth 50000 in
theorem gw_308 : Cond.code gm_308.1 gm_308.2.1 gm_308.2.2.1 gm_308.2.2.2.1 ∈ g_tw := g_cw (g_t3 (k := 147) rfl)
theorem gc_308 : g_ckP 308 gm_308 := g_ck_of gw_308 (by decide +kernel)
set_option maxRecDepth 50000 in
theorem gw_309 : Cond.code gm_309.1 gm_309.2.1 gm_309.2.2.1 gm_309.2.2.2.1 ∈ g_tw := g_cw (g_t3 (k := 72) rfl)
theorem gc_309 : g_ckP 309 gm_309 := g_ck_of gw_309 (by decide +kernel)
set_option maxRecDepth 50000 in
theorem gw_310 : Cond.code gm_310.1 gm_310.2.1 gm_310.2.2.1 gm_310.2.2.2.1 ∈ g_tw := g_cw (g_t3 (k := 69) rfl)
theorem gc_310 : g_ckP 310 gm_310 := g_ck_of gw_310 (by decide +kernel)
set_option maxRecDepth 50000 in
theorem gw_311 : Cond.code gm_311.1 gm_311.2.1 gm_311.2.2.1 gm_311.2.2.2.1 ∈ g_tw := g_cw (g_t3 (k := 81) rfl)
theorem gc_311 : g_ckP 311 gm_311 := g_ck_of gw_311 (by decide +kernel)
set_option maxRecDepth 50000 in
theorem gw_321 : Cond.code gm_321.1 gm_321.2.1 gm_321.2.2.1 gm_321.2.2.2.1 ∈ g_tw := g_cw (g_t1 (k := 131) rfl)
theorem gc_321 : g_ckP 321 gm_321 := g_ck_of gw_321 (by decide +kernel)
set_option maxRecDepth 50000 in
theorem gw_322 : Cond.code gm_322.1 gm_322.2.1 gm_322.2.2.1 gm_322.2.2.2.1 ∈ g_tw := g_cw (g_t3 (k := 153) rfl)
theorem gc_322 : g_ckP 322 gm_322 := g_ck_of gw_322 (by decide +kernel)
