/-! The law's cases feed, lifted, mark -/
theorem dK_184 : decode cL_law 184 = .ok (.aload_n 1, 1) := by decide +kernel
theorem dK_185 : decode cL_law 185 = .ok (.aload_n 0, 1) := by decide +kernel
theorem dK_186 : decode cL_law 186 = .ok (.iload 4, 2) := by decide +kernel
theorem dK_188 : decode cL_law 188 = .ok (.iconst 1, 1) := by decide +kernel
theorem dK_189 : decode cL_law 189 = .ok (.iadd, 1) := by decide +kernel
theorem dK_190 : decode cL_law 190 = .ok (.iaload, 1) := by decide +kernel
theorem dK_191 : decode cL_law 191 = .ok (.i2l, 1) := by decide +kernel
theorem dK_192 : decode cL_law 192 = .ok (.bipush 32, 2) := by decide +kernel
theorem dK_194 : decode cL_law 194 = .ok (.lshl, 1) := by decide +kernel
theorem dK_195 : decode cL_law 195 = .ok (.aload_n 0, 1) := by decide +kernel
theorem dK_196 : decode cL_law 196 = .ok (.iload 4, 2) := by decide +kernel
theorem dK_198 : decode cL_law 198 = .ok (.iconst 2, 1) := by decide +kernel
theorem dK_199 : decode cL_law 199 = .ok (.iadd, 1) := by decide +kernel
theorem dK_200 : decode cL_law 200 = .ok (.iaload, 1) := by decide +kernel
theorem dK_201 : decode cL_law 201 = .ok (.i2l, 1) := by decide +kernel
theorem dK_202 : decode cL_law 202 = .ok (.ldc2_w 27, 3) := by decide +kernel
theorem dK_205 : decode cL_law 205 = .ok (.land, 1) := by decide +kernel
theorem dK_206 : decode cL_law 206 = .ok (.lor, 1) := by decide +kernel
theorem dK_207 : decode cL_law 207 = .ok (.aload_n 0, 1) := by decide +kernel
theorem dK_208 : decode cL_law 208 = .ok (.iload 4, 2) := by decide +kernel
theorem dK_210 : decode cL_law 210 = .ok (.iconst 3, 1) := by decide +kernel
theorem dK_211 : decode cL_law 211 = .ok (.iadd, 1) := by decide +kernel
theorem dK_212 : decode cL_law 212 = .ok (.iaload, 1) := by decide +kernel
theorem dK_213 : decode cL_law 213 = .ok (.i2l, 1) := by decide +kernel
theorem dK_214 : decode cL_law 214 = .ok (.bipush 32, 2) := by decide +kernel
theorem dK_216 : decode cL_law 216 = .ok (.lshl, 1) := by decide +kernel
theorem dK_217 : decode cL_law 217 = .ok (.aload_n 0, 1) := by decide +kernel
theorem dK_218 : decode cL_law 218 = .ok (.iload 4, 2) := by decide +kernel
theorem dK_220 : decode cL_law 220 = .ok (.iconst 4, 1) := by decide +kernel
theorem dK_221 : decode cL_law 221 = .ok (.iadd, 1) := by decide +kernel
theorem dK_222 : decode cL_law 222 = .ok (.iaload, 1) := by decide +kernel
theorem dK_223 : decode cL_law 223 = .ok (.i2l, 1) := by decide +kernel
theorem dK_224 : decode cL_law 224 = .ok (.ldc2_w 27, 3) := by decide +kernel
theorem dK_227 : decode cL_law 227 = .ok (.land, 1) := by decide +kernel
theorem dK_228 : decode cL_law 228 = .ok (.lor, 1) := by decide +kernel
theorem dK_229 : decode cL_law 229 = .ok (.aload_n 0, 1) := by decide +kernel
theorem dK_230 : decode cL_law 230 = .ok (.iload 4, 2) := by decide +kernel
theorem dK_232 : decode cL_law 232 = .ok (.iconst 5, 1) := by decide +kernel
theorem dK_233 : decode cL_law 233 = .ok (.iadd, 1) := by decide +kernel
theorem dK_234 : decode cL_law 234 = .ok (.iaload, 1) := by decide +kernel
theorem dK_235 : decode cL_law 235 = .ok (.i2l, 1) := by decide +kernel
theorem dK_236 : decode cL_law 236 = .ok (.bipush 32, 2) := by decide +kernel
theorem dK_238 : decode cL_law 238 = .ok (.lshl, 1) := by decide +kernel
theorem dK_239 : decode cL_law 239 = .ok (.aload_n 0, 1) := by decide +kernel
theorem dK_240 : decode cL_law 240 = .ok (.iload 4, 2) := by decide +kernel
theorem dK_242 : decode cL_law 242 = .ok (.bipush 6, 2) := by decide +kernel
theorem dK_244 : decode cL_law 244 = .ok (.iadd, 1) := by decide +kernel
theorem dK_245 : decode cL_law 245 = .ok (.iaload, 1) := by decide +kernel
theorem dK_246 : decode cL_law 246 = .ok (.i2l, 1) := by decide +kernel
theorem dK_247 : decode cL_law 247 = .ok (.ldc2_w 27, 3) := by decide +kernel
theorem dK_250 : decode cL_law 250 = .ok (.land, 1) := by decide +kernel
theorem dK_251 : decode cL_law 251 = .ok (.lor, 1) := by decide +kernel
theorem dK_252 : decode cL_law 252 = .ok (.invokevirtual 29, 3) := by decide +kernel
theorem dK_255 : decode cL_law 255 = .ok (.aload_n 2, 1) := by decide +kernel
theorem dK_256 : decode cL_law 256 = .ok (.aload_n 0, 1) := by decide +kernel
theorem dK_257 : decode cL_law 257 = .ok (.iload 4, 2) := by decide +kernel
theorem dK_259 : decode cL_law 259 = .ok (.iconst 1, 1) := by decide +kernel
theorem dK_260 : decode cL_law 260 = .ok (.iadd, 1) := by decide +kernel
theorem dK_261 : decode cL_law 261 = .ok (.iaload, 1) := by decide +kernel
theorem dK_262 : decode cL_law 262 = .ok (.i2l, 1) := by decide +kernel
theorem dK_263 : decode cL_law 263 = .ok (.bipush 32, 2) := by decide +kernel
theorem dK_265 : decode cL_law 265 = .ok (.lshl, 1) := by decide +kernel
theorem dK_266 : decode cL_law 266 = .ok (.aload_n 0, 1) := by decide +kernel
theorem dK_267 : decode cL_law 267 = .ok (.iload 4, 2) := by decide +kernel
theorem dK_269 : decode cL_law 269 = .ok (.iconst 2, 1) := by decide +kernel
theorem dK_270 : decode cL_law 270 = .ok (.iadd, 1) := by decide +kernel
theorem dK_271 : decode cL_law 271 = .ok (.iaload, 1) := by decide +kernel
theorem dK_272 : decode cL_law 272 = .ok (.i2l, 1) := by decide +kernel
theorem dK_273 : decode cL_law 273 = .ok (.ldc2_w 27, 3) := by decide +kernel
theorem dK_276 : decode cL_law 276 = .ok (.land, 1) := by decide +kernel
theorem dK_277 : decode cL_law 277 = .ok (.lor, 1) := by decide +kernel
theorem dK_278 : decode cL_law 278 = .ok (.aload_n 0, 1) := by decide +kernel
theorem dK_279 : decode cL_law 279 = .ok (.iload 4, 2) := by decide +kernel
theorem dK_281 : decode cL_law 281 = .ok (.iconst 3, 1) := by decide +kernel
theorem dK_282 : decode cL_law 282 = .ok (.iadd, 1) := by decide +kernel
theorem dK_283 : decode cL_law 283 = .ok (.iaload, 1) := by decide +kernel
theorem dK_284 : decode cL_law 284 = .ok (.i2l, 1) := by decide +kernel
theorem dK_285 : decode cL_law 285 = .ok (.bipush 32, 2) := by decide +kernel
theorem dK_287 : decode cL_law 287 = .ok (.lshl, 1) := by decide +kernel
theorem dK_288 : decode cL_law 288 = .ok (.aload_n 0, 1) := by decide +kernel
theorem dK_289 : decode cL_law 289 = .ok (.iload 4, 2) := by decide +kernel
theorem dK_291 : decode cL_law 291 = .ok (.iconst 4, 1) := by decide +kernel
theorem dK_292 : decode cL_law 292 = .ok (.iadd, 1) := by decide +kernel
theorem dK_293 : decode cL_law 293 = .ok (.iaload, 1) := by decide +kernel
theorem dK_294 : decode cL_law 294 = .ok (.i2l, 1) := by decide +kernel
theorem dK_295 : decode cL_law 295 = .ok (.ldc2_w 27, 3) := by decide +kernel
theorem dK_298 : decode cL_law 298 = .ok (.land, 1) := by decide +kernel
theorem dK_299 : decode cL_law 299 = .ok (.lor, 1) := by decide +kernel
theorem dK_300 : decode cL_law 300 = .ok (.aload_n 0, 1) := by decide +kernel
theorem dK_301 : decode cL_law 301 = .ok (.iload 4, 2) := by decide +kernel
theorem dK_303 : decode cL_law 303 = .ok (.iconst 5, 1) := by decide +kernel
theorem dK_304 : decode cL_law 304 = .ok (.iadd, 1) := by decide +kernel
theorem dK_305 : decode cL_law 305 = .ok (.iaload, 1) := by decide +kernel
theorem dK_306 : decode cL_law 306 = .ok (.i2l, 1) := by decide +kernel
theorem dK_307 : decode cL_law 307 = .ok (.bipush 32, 2) := by decide +kernel
theorem dK_309 : decode cL_law 309 = .ok (.lshl, 1) := by decide +kernel
theorem dK_310 : decode cL_law 310 = .ok (.aload_n 0, 1) := by decide +kernel
theorem dK_311 : decode cL_law 311 = .ok (.iload 4, 2) := by decide +kernel
theorem dK_313 : decode cL_law 313 = .ok (.bipush 6, 2) := by decide +kernel
theorem dK_315 : decode cL_law 315 = .ok (.iadd, 1) := by decide +kernel
theorem dK_316 : decode cL_law 316 = .ok (.iaload, 1) := by decide +kernel
theorem dK_317 : decode cL_law 317 = .ok (.i2l, 1) := by decide +kernel
theorem dK_318 : decode cL_law 318 = .ok (.ldc2_w 27, 3) := by decide +kernel
theorem dK_321 : decode cL_law 321 = .ok (.land, 1) := by decide +kernel
theorem dK_322 : decode cL_law 322 = .ok (.lor, 1) := by decide +kernel
theorem dK_323 : decode cL_law 323 = .ok (.invokevirtual 33, 3) := by decide +kernel
theorem dK_326 : decode cL_law 326 = .ok (.if_icmp .eq 1291, 3) := by decide +kernel
theorem dK_1281 : decode cL_law 1281 = .ok (.aload_n 1, 1) := by decide +kernel
theorem dK_1282 : decode cL_law 1282 = .ok (.aload_n 0, 1) := by decide +kernel
theorem dK_1283 : decode cL_law 1283 = .ok (.iload 4, 2) := by decide +kernel
theorem dK_1285 : decode cL_law 1285 = .ok (.iconst 1, 1) := by decide +kernel
theorem dK_1286 : decode cL_law 1286 = .ok (.iadd, 1) := by decide +kernel
theorem dK_1287 : decode cL_law 1287 = .ok (.iaload, 1) := by decide +kernel
theorem dK_1288 : decode cL_law 1288 = .ok (.aload_n 0, 1) := by decide +kernel
theorem dK_1289 : decode cL_law 1289 = .ok (.iload 4, 2) := by decide +kernel
theorem dK_1291 : decode cL_law 1291 = .ok (.iconst 2, 1) := by decide +kernel
theorem dK_1292 : decode cL_law 1292 = .ok (.iadd, 1) := by decide +kernel
theorem dK_1293 : decode cL_law 1293 = .ok (.iaload, 1) := by decide +kernel
theorem dK_1294 : decode cL_law 1294 = .ok (.ifCond .eq 7, 3) := by decide +kernel
theorem dK_1297 : decode cL_law 1297 = .ok (.iconst 1, 1) := by decide +kernel
theorem dK_1298 : decode cL_law 1298 = .ok (.goto 4, 3) := by decide +kernel
theorem dK_1301 : decode cL_law 1301 = .ok (.iconst 0, 1) := by decide +kernel
theorem dK_1302 : decode cL_law 1302 = .ok (.invokevirtual 138, 3) := by decide +kernel
theorem dK_1305 : decode cL_law 1305 = .ok (.aload_n 2, 1) := by decide +kernel
theorem dK_1306 : decode cL_law 1306 = .ok (.aload_n 0, 1) := by decide +kernel
theorem dK_1307 : decode cL_law 1307 = .ok (.iload 4, 2) := by decide +kernel
theorem dK_1309 : decode cL_law 1309 = .ok (.iconst 1, 1) := by decide +kernel
theorem dK_1310 : decode cL_law 1310 = .ok (.iadd, 1) := by decide +kernel
theorem dK_1311 : decode cL_law 1311 = .ok (.iaload, 1) := by decide +kernel
theorem dK_1312 : decode cL_law 1312 = .ok (.aload_n 0, 1) := by decide +kernel
theorem dK_1313 : decode cL_law 1313 = .ok (.iload 4, 2) := by decide +kernel
theorem dK_1315 : decode cL_law 1315 = .ok (.iconst 2, 1) := by decide +kernel
theorem dK_1316 : decode cL_law 1316 = .ok (.iadd, 1) := by decide +kernel
theorem dK_1317 : decode cL_law 1317 = .ok (.iaload, 1) := by decide +kernel
theorem dK_1318 : decode cL_law 1318 = .ok (.ifCond .eq 7, 3) := by decide +kernel
theorem dK_1321 : decode cL_law 1321 = .ok (.iconst 1, 1) := by decide +kernel
theorem dK_1322 : decode cL_law 1322 = .ok (.goto 4, 3) := by decide +kernel
theorem dK_1325 : decode cL_law 1325 = .ok (.iconst 0, 1) := by decide +kernel
theorem dK_1326 : decode cL_law 1326 = .ok (.invokevirtual 142, 3) := by decide +kernel
theorem dK_1329 : decode cL_law 1329 = .ok (.if_icmp .eq 288, 3) := by decide +kernel
theorem dK_1539 : decode cL_law 1539 = .ok (.aload_n 1, 1) := by decide +kernel
theorem dK_1540 : decode cL_law 1540 = .ok (.aload_n 0, 1) := by decide +kernel
theorem dK_1541 : decode cL_law 1541 = .ok (.iload 4, 2) := by decide +kernel
theorem dK_1543 : decode cL_law 1543 = .ok (.iconst 1, 1) := by decide +kernel
theorem dK_1544 : decode cL_law 1544 = .ok (.iadd, 1) := by decide +kernel
theorem dK_1545 : decode cL_law 1545 = .ok (.iaload, 1) := by decide +kernel
theorem dK_1546 : decode cL_law 1546 = .ok (.aload_n 0, 1) := by decide +kernel
theorem dK_1547 : decode cL_law 1547 = .ok (.iload 4, 2) := by decide +kernel
theorem dK_1549 : decode cL_law 1549 = .ok (.iconst 2, 1) := by decide +kernel
theorem dK_1550 : decode cL_law 1550 = .ok (.iadd, 1) := by decide +kernel
theorem dK_1551 : decode cL_law 1551 = .ok (.iaload, 1) := by decide +kernel
theorem dK_1552 : decode cL_law 1552 = .ok (.ifCond .eq 7, 3) := by decide +kernel
theorem dK_1555 : decode cL_law 1555 = .ok (.iconst 1, 1) := by decide +kernel
theorem dK_1556 : decode cL_law 1556 = .ok (.goto 4, 3) := by decide +kernel
theorem dK_1559 : decode cL_law 1559 = .ok (.iconst 0, 1) := by decide +kernel
theorem dK_1560 : decode cL_law 1560 = .ok (.invokevirtual 159, 3) := by decide +kernel
theorem dK_1563 : decode cL_law 1563 = .ok (.aload_n 2, 1) := by decide +kernel
theorem dK_1564 : decode cL_law 1564 = .ok (.aload_n 0, 1) := by decide +kernel
theorem dK_1565 : decode cL_law 1565 = .ok (.iload 4, 2) := by decide +kernel
theorem dK_1567 : decode cL_law 1567 = .ok (.iconst 1, 1) := by decide +kernel
theorem dK_1568 : decode cL_law 1568 = .ok (.iadd, 1) := by decide +kernel
theorem dK_1569 : decode cL_law 1569 = .ok (.iaload, 1) := by decide +kernel
theorem dK_1570 : decode cL_law 1570 = .ok (.aload_n 0, 1) := by decide +kernel
theorem dK_1571 : decode cL_law 1571 = .ok (.iload 4, 2) := by decide +kernel
theorem dK_1573 : decode cL_law 1573 = .ok (.iconst 2, 1) := by decide +kernel
theorem dK_1574 : decode cL_law 1574 = .ok (.iadd, 1) := by decide +kernel
theorem dK_1575 : decode cL_law 1575 = .ok (.iaload, 1) := by decide +kernel
theorem dK_1576 : decode cL_law 1576 = .ok (.ifCond .eq 7, 3) := by decide +kernel
theorem dK_1579 : decode cL_law 1579 = .ok (.iconst 1, 1) := by decide +kernel
theorem dK_1580 : decode cL_law 1580 = .ok (.goto 4, 3) := by decide +kernel
theorem dK_1583 : decode cL_law 1583 = .ok (.iconst 0, 1) := by decide +kernel
theorem dK_1584 : decode cL_law 1584 = .ok (.invokevirtual 162, 3) := by decide +kernel
theorem dK_1587 : decode cL_law 1587 = .ok (.if_icmp .eq 30, 3) := by decide +kernel
section LjKat
variable {p : Program} {l : Launch} {e : Env} {s : State} {m : MethodId} {below : List Frame} {meth : Method} {c : Code} {H : Heap} {locs : List Loc} {cells slots : Nat} {Q : State → Prop} {b : Nat}
variable {ls : Array Slot} {D : va_G} {tys : List (ClassId × FieldType)} {caC adC caR adR : Nat → Nat} {co ao L : Nat} {xs : Nat → Int32} {μ r0 : g_St} {ox : va_E}
theorem lj_hg (C : lj_C p s m b c D tys caC adC caR adR co) (hce : cells ≤ 601024) (hsl : slots ≤ 7293034) : ∀ w ∈ g_gw, w.before #[Value.ref b] s = true := (C.1 cells slots hce hsl).1.2.2.2.2.1
theorem lj_k_feed {i : Int32} (hx : p.tables.exec = Jvm.exec) (hb : c.code = cL_law) (hX : lj_X s b L xs) (C : lj_C p s m b c D tys caC adC caR adR co) (hce : cells ≤ 601024) (hsl : slots ≤ 7293034) (hi : ∀ k : Int32, 0 ≤ k → k ≤ 6 → vp_in (i + k) L) (hl : lv_has ls 7 [(4, .int i), (3, .ref ao), (2, .ref (adR 0)), (1, .ref (adC 0)), (0, .ref b)]) (hR : g_Rp gC D caC adC ((ao, ox) :: g_wW adR caR gR r0) (lj_A s) s.heap μ H locs) (hz : zi μ r0)
    (kk : ∀ (c1 r1 : g_St) (H1 : Heap) (locs1 : List Loc), zi c1 r1 → g_Rp gC D caC adC ((ao, ox) :: g_wW adR caR gR r1) (lj_A s) s.heap c1 H1 locs1 → W p l e room_1 s m #[Value.ref b] below meth c H1 locs1 cells slots Q (F0 m 1617 ls [])) :
    W p l e room_1 s m #[Value.ref b] below meth c H locs cells slots Q (F0 m 184 ls []) := by
  obtain ⟨x, c2, r2, hf, hm, hz2⟩ := zo_feed (F := 5000) (by decide) hz (((xs (i + 1).toNatClampNeg).toInt64 <<< ((32 : Int32).toInt64 &&& 63)) ||| ((xs (i + 2).toNatClampNeg).toInt64 &&& 4294967295)) (((xs (i + 3).toNatClampNeg).toInt64 <<< ((32 : Int32).toInt64 &&& 63)) ||| ((xs (i + 4).toNatClampNeg).toInt64 &&& 4294967295)) (((xs (i + 5).toNatClampNeg).toInt64 <<< ((32 : Int32).toInt64 &&& 63)) ||| ((xs (i + 6).toNatClampNeg).toInt64 &&& 4294967295))
  refine lv_aload_n hx hb dK_184 rfl (lv_at hl 3 rfl) ?_
  refine lj_arg (k := 1) (nk := 1) hx hb hX hR.2.2 4 0 hl rfl rfl (fun st k => lv_iconst (v := 1) hx hb dK_188 (by decide) k) (hi 1 (by decide) (by decide)) dK_185 dK_186 dK_189 dK_190 ?_
  refine lv_i2l hx hb dK_191 rfl ?_
  refine lv_bipush (v := 32) hx hb dK_192 (by decide) ?_
  refine lv_lshl hx hb dK_194 rfl ?_
  refine lj_arg (k := 2) (nk := 1) hx hb hX hR.2.2 4 0 hl rfl rfl (fun st k => lv_iconst (v := 2) hx hb dK_198 (by decide) k) (hi 2 (by decide) (by decide)) dK_195 dK_196 dK_199 dK_200 ?_
  refine lv_i2l hx hb dK_201 rfl ?_
  refine lv_ldc2 (v := 4294967295) hx hb (C.1 cells slots hce hsl).1.2.2.2.1 (lj_hg C hce hsl _ (g_in8 (List.mem_of_getElem? (i := 30) rfl) rfl)) dK_202 ?_
  refine lv_land hx hb dK_205 ?_
  refine lv_lor hx hb dK_206 ?_
  refine lj_arg (k := 3) (nk := 1) hx hb hX hR.2.2 4 0 hl rfl rfl (fun st k => lv_iconst (v := 3) hx hb dK_210 (by decide) k) (hi 3 (by decide) (by decide)) dK_207 dK_208 dK_211 dK_212 ?_
  refine lv_i2l hx hb dK_213 rfl ?_
  refine lv_bipush (v := 32) hx hb dK_214 (by decide) ?_
  refine lv_lshl hx hb dK_216 rfl ?_
  refine lj_arg (k := 4) (nk := 1) hx hb hX hR.2.2 4 0 hl rfl rfl (fun st k => lv_iconst (v := 4) hx hb dK_220 (by decide) k) (hi 4 (by decide) (by decide)) dK_217 dK_218 dK_221 dK_222 ?_
  refine lv_i2l hx hb dK_223 rfl ?_
  refine lv_ldc2 (v := 4294967295) hx hb (C.1 cells slots hce hsl).1.2.2.2.1 (lj_hg C hce hsl _ (g_in8 (List.mem_of_getElem? (i := 30) rfl) rfl)) dK_224 ?_
  refine lv_land hx hb dK_227 ?_
  refine lv_lor hx hb dK_228 ?_
  refine lj_arg (k := 5) (nk := 1) hx hb hX hR.2.2 4 0 hl rfl rfl (fun st k => lv_iconst (v := 5) hx hb dK_232 (by decide) k) (hi 5 (by decide) (by decide)) dK_229 dK_230 dK_233 dK_234 ?_
  refine lv_i2l hx hb dK_235 rfl ?_
  refine lv_bipush (v := 32) hx hb dK_236 (by decide) ?_
  refine lv_lshl hx hb dK_238 rfl ?_
  refine lj_arg (k := 6) (nk := 2) hx hb hX hR.2.2 4 0 hl rfl rfl (fun st k => lv_bipush (v := 6) hx hb dK_242 (by decide) k) (hi 6 (by decide) (by decide)) dK_239 dK_240 dK_244 dK_245 ?_
  refine lv_i2l hx hb dK_246 rfl ?_
  refine lv_ldc2 (v := 4294967295) hx hb (C.1 cells slots hce hsl).1.2.2.2.1 (lj_hg C hce hsl _ (g_in8 (List.mem_of_getElem? (i := 30) rfl) rfl)) dK_247 ?_
  refine lv_land hx hb dK_250 ?_
  refine lv_lor hx hb dK_251 ?_
  refine lj_cC (as := [.long _, .long _, .long _]) (st := []) (x := x) C hce hsl hl.1 hR dK_252 (g_in2 (List.mem_of_getElem? (i := 143) rfl) rfl) mv_X8_feed mc_X8_feed rfl rfl (Nat.le_of_ble_eq_true rfl) (Nat.le_of_ble_eq_true rfl) (Nat.le_of_ble_eq_true rfl) (co_oo_feed 5000 _ _ _ _) hf rfl rfl (fun H locs hR => ?_)
  refine lv_aload_n hx hb dK_255 rfl (lv_at hl 2 rfl) ?_
  refine lj_arg (k := 1) (nk := 1) hx hb hX hR.2.2 4 0 hl rfl rfl (fun st k => lv_iconst (v := 1) hx hb dK_259 (by decide) k) (hi 1 (by decide) (by decide)) dK_256 dK_257 dK_260 dK_261 ?_
  refine lv_i2l hx hb dK_262 rfl ?_
  refine lv_bipush (v := 32) hx hb dK_263 (by decide) ?_
  refine lv_lshl hx hb dK_265 rfl ?_
  refine lj_arg (k := 2) (nk := 1) hx hb hX hR.2.2 4 0 hl rfl rfl (fun st k => lv_iconst (v := 2) hx hb dK_269 (by decide) k) (hi 2 (by decide) (by decide)) dK_266 dK_267 dK_270 dK_271 ?_
  refine lv_i2l hx hb dK_272 rfl ?_
  refine lv_ldc2 (v := 4294967295) hx hb (C.1 cells slots hce hsl).1.2.2.2.1 (lj_hg C hce hsl _ (g_in8 (List.mem_of_getElem? (i := 30) rfl) rfl)) dK_273 ?_
  refine lv_land hx hb dK_276 ?_
  refine lv_lor hx hb dK_277 ?_
  refine lj_arg (k := 3) (nk := 1) hx hb hX hR.2.2 4 0 hl rfl rfl (fun st k => lv_iconst (v := 3) hx hb dK_281 (by decide) k) (hi 3 (by decide) (by decide)) dK_278 dK_279 dK_282 dK_283 ?_
  refine lv_i2l hx hb dK_284 rfl ?_
  refine lv_bipush (v := 32) hx hb dK_285 (by decide) ?_
  refine lv_lshl hx hb dK_287 rfl ?_
  refine lj_arg (k := 4) (nk := 1) hx hb hX hR.2.2 4 0 hl rfl rfl (fun st k => lv_iconst (v := 4) hx hb dK_291 (by decide) k) (hi 4 (by decide) (by decide)) dK_288 dK_289 dK_292 dK_293 ?_
  refine lv_i2l hx hb dK_294 rfl ?_
  refine lv_ldc2 (v := 4294967295) hx hb (C.1 cells slots hce hsl).1.2.2.2.1 (lj_hg C hce hsl _ (g_in8 (List.mem_of_getElem? (i := 30) rfl) rfl)) dK_295 ?_
  refine lv_land hx hb dK_298 ?_
  refine lv_lor hx hb dK_299 ?_
  refine lj_arg (k := 5) (nk := 1) hx hb hX hR.2.2 4 0 hl rfl rfl (fun st k => lv_iconst (v := 5) hx hb dK_303 (by decide) k) (hi 5 (by decide) (by decide)) dK_300 dK_301 dK_304 dK_305 ?_
  refine lv_i2l hx hb dK_306 rfl ?_
  refine lv_bipush (v := 32) hx hb dK_307 (by decide) ?_
  refine lv_lshl hx hb dK_309 rfl ?_
  refine lj_arg (k := 6) (nk := 2) hx hb hX hR.2.2 4 0 hl rfl rfl (fun st k => lv_bipush (v := 6) hx hb dK_313 (by decide) k) (hi 6 (by decide) (by decide)) dK_310 dK_311 dK_315 dK_316 ?_
  refine lv_i2l hx hb dK_317 rfl ?_
  refine lv_ldc2 (v := 4294967295) hx hb (C.1 cells slots hce hsl).1.2.2.2.1 (lj_hg C hce hsl _ (g_in8 (List.mem_of_getElem? (i := 30) rfl) rfl)) dK_318 ?_
  refine lv_land hx hb dK_321 ?_
  refine lv_lor hx hb dK_322 ?_
  refine lj_cR (as := [.long _, .long _, .long _]) (st := [.int x]) (x := x) C hce hsl hl.1 hR dK_323 (g_in6 (List.mem_of_getElem? (i := 83) rfl) rfl) mv_X9_feed mc_X9_feed rfl rfl (Nat.le_of_ble_eq_true rfl) (Nat.le_of_ble_eq_true rfl) (Nat.le_of_ble_eq_true rfl) (co_mm_feed 5000 _ _ _ _) hm rfl rfl (fun H locs hR => ?_)
  exact lj_same hx hb dK_326 (by decide) (kk _ _ H locs hz2 hR)
theorem lj_k_lifted {i : Int32} (hx : p.tables.exec = Jvm.exec) (hb : c.code = cL_law) (hX : lj_X s b L xs) (C : lj_C p s m b c D tys caC adC caR adR co) (hce : cells ≤ 601024) (hsl : slots ≤ 7293034) (hi : ∀ k : Int32, 0 ≤ k → k ≤ 6 → vp_in (i + k) L) (hl : lv_has ls 7 [(4, .int i), (3, .ref ao), (2, .ref (adR 0)), (1, .ref (adC 0)), (0, .ref b)]) (hR : g_Rp gC D caC adC ((ao, ox) :: g_wW adR caR gR r0) (lj_A s) s.heap μ H locs) (hz : zi μ r0)
    (kk : ∀ (c1 r1 : g_St) (H1 : Heap) (locs1 : List Loc), zi c1 r1 → g_Rp gC D caC adC ((ao, ox) :: g_wW adR caR gR r1) (lj_A s) s.heap c1 H1 locs1 → W p l e room_1 s m #[Value.ref b] below meth c H1 locs1 cells slots Q (F0 m 1617 ls [])) :
    W p l e room_1 s m #[Value.ref b] below meth c H locs cells slots Q (F0 m 1281 ls []) := by
  by_cases hv : xs (i + 2).toNatClampNeg = 0
  · obtain ⟨x, c2, r2, hf, hm, hz2⟩ := zo_liftedq hz (xs (i + 1).toNatClampNeg) false
    have hf : oo_lifted (xs (i + 1).toNatClampNeg) 0 μ = some (x, c2) := hf
    have hm : mm_lifted (xs (i + 1).toNatClampNeg) 0 r0 = some (x, r2) := hm
    refine lv_aload_n hx hb dK_1281 rfl (lv_at hl 3 rfl) ?_
    refine lj_arg (k := 1) (nk := 1) hx hb hX hR.2.2 4 0 hl rfl rfl (fun st k => lv_iconst (v := 1) hx hb dK_1285 (by decide) k) (hi 1 (by decide) (by decide)) dK_1282 dK_1283 dK_1286 dK_1287 ?_
    refine lj_arg (k := 2) (nk := 1) hx hb hX hR.2.2 4 0 hl rfl rfl (fun st k => lv_iconst (v := 2) hx hb dK_1291 (by decide) k) (hi 2 (by decide) (by decide)) dK_1288 dK_1289 dK_1292 dK_1293 ?_
    refine lv_if_eq (tgt := 1301) hx hb dK_1294 (by decide) (fun _ => ?_) (fun h => absurd hv h)
    refine lv_iconst (v := 0) hx hb dK_1301 (by decide) ?_
    refine lj_cC (as := [.int _, .int _]) (st := []) (x := x) C hce hsl hl.1 hR dK_1302 (g_in4 (List.mem_of_getElem? (i := 202) rfl) rfl) mv_X8_lifted mc_X8_lifted rfl rfl (Nat.le_of_ble_eq_true rfl) (Nat.le_of_ble_eq_true rfl) (Nat.le_of_ble_eq_true rfl) (co_oo_lifted _ _ _) hf rfl rfl (fun H locs hR => ?_)
    refine lv_aload_n hx hb dK_1305 rfl (lv_at hl 2 rfl) ?_
    refine lj_arg (k := 1) (nk := 1) hx hb hX hR.2.2 4 0 hl rfl rfl (fun st k => lv_iconst (v := 1) hx hb dK_1309 (by decide) k) (hi 1 (by decide) (by decide)) dK_1306 dK_1307 dK_1310 dK_1311 ?_
    refine lj_arg (k := 2) (nk := 1) hx hb hX hR.2.2 4 0 hl rfl rfl (fun st k => lv_iconst (v := 2) hx hb dK_1315 (by decide) k) (hi 2 (by decide) (by decide)) dK_1312 dK_1313 dK_1316 dK_1317 ?_
    refine lv_if_eq (tgt := 1325) hx hb dK_1318 (by decide) (fun _ => ?_) (fun h => absurd hv h)
    refine lv_iconst (v := 0) hx hb dK_1325 (by decide) ?_
    refine lj_cR (as := [.int _, .int _]) (st := [.int x]) (x := x) C hce hsl hl.1 hR dK_1326 (g_in7 (List.mem_of_getElem? (i := 222) rfl) rfl) mv_X9_lifted mc_X9_lifted rfl rfl (Nat.le_of_ble_eq_true rfl) (Nat.le_of_ble_eq_true rfl) (Nat.le_of_ble_eq_true rfl) (co_mm_lifted _ _ _) hm rfl rfl (fun H locs hR => ?_)
    exact lj_same hx hb dK_1329 (by decide) (kk _ _ H locs hz2 hR)
  · obtain ⟨x, c2, r2, hf, hm, hz2⟩ := zo_liftedq hz (xs (i + 1).toNatClampNeg) true
    have hf : oo_lifted (xs (i + 1).toNatClampNeg) 1 μ = some (x, c2) := hf
    have hm : mm_lifted (xs (i + 1).toNatClampNeg) 1 r0 = some (x, r2) := hm
    refine lv_aload_n hx hb dK_1281 rfl (lv_at hl 3 rfl) ?_
    refine lj_arg (k := 1) (nk := 1) hx hb hX hR.2.2 4 0 hl rfl rfl (fun st k => lv_iconst (v := 1) hx hb dK_1285 (by decide) k) (hi 1 (by decide) (by decide)) dK_1282 dK_1283 dK_1286 dK_1287 ?_
    refine lj_arg (k := 2) (nk := 1) hx hb hX hR.2.2 4 0 hl rfl rfl (fun st k => lv_iconst (v := 2) hx hb dK_1291 (by decide) k) (hi 2 (by decide) (by decide)) dK_1288 dK_1289 dK_1292 dK_1293 ?_
    refine lv_if_eq (tgt := 1301) hx hb dK_1294 (by decide) (fun h => absurd h hv) (fun _ => ?_)
    refine lv_iconst (v := 1) hx hb dK_1297 (by decide) ?_
    refine lv_goto (tgt := 1302) hx hb dK_1298 (by decide) ?_
    refine lj_cC (as := [.int _, .int _]) (st := []) (x := x) C hce hsl hl.1 hR dK_1302 (g_in4 (List.mem_of_getElem? (i := 202) rfl) rfl) mv_X8_lifted mc_X8_lifted rfl rfl (Nat.le_of_ble_eq_true rfl) (Nat.le_of_ble_eq_true rfl) (Nat.le_of_ble_eq_true rfl) (co_oo_lifted _ _ _) hf rfl rfl (fun H locs hR => ?_)
    refine lv_aload_n hx hb dK_1305 rfl (lv_at hl 2 rfl) ?_
    refine lj_arg (k := 1) (nk := 1) hx hb hX hR.2.2 4 0 hl rfl rfl (fun st k => lv_iconst (v := 1) hx hb dK_1309 (by decide) k) (hi 1 (by decide) (by decide)) dK_1306 dK_1307 dK_1310 dK_1311 ?_
    refine lj_arg (k := 2) (nk := 1) hx hb hX hR.2.2 4 0 hl rfl rfl (fun st k => lv_iconst (v := 2) hx hb dK_1315 (by decide) k) (hi 2 (by decide) (by decide)) dK_1312 dK_1313 dK_1316 dK_1317 ?_
    refine lv_if_eq (tgt := 1325) hx hb dK_1318 (by decide) (fun h => absurd h hv) (fun _ => ?_)
    refine lv_iconst (v := 1) hx hb dK_1321 (by decide) ?_
    refine lv_goto (tgt := 1326) hx hb dK_1322 (by decide) ?_
    refine lj_cR (as := [.int _, .int _]) (st := [.int x]) (x := x) C hce hsl hl.1 hR dK_1326 (g_in7 (List.mem_of_getElem? (i := 222) rfl) rfl) mv_X9_lifted mc_X9_lifted rfl rfl (Nat.le_of_ble_eq_true rfl) (Nat.le_of_ble_eq_true rfl) (Nat.le_of_ble_eq_true rfl) (co_mm_lifted _ _ _) hm rfl rfl (fun H locs hR => ?_)
    exact lj_same hx hb dK_1329 (by decide) (kk _ _ H locs hz2 hR)
theorem lj_k_mark {i : Int32} (hx : p.tables.exec = Jvm.exec) (hb : c.code = cL_law) (hX : lj_X s b L xs) (C : lj_C p s m b c D tys caC adC caR adR co) (hce : cells ≤ 601024) (hsl : slots ≤ 7293034) (hi : ∀ k : Int32, 0 ≤ k → k ≤ 6 → vp_in (i + k) L) (hl : lv_has ls 7 [(4, .int i), (3, .ref ao), (2, .ref (adR 0)), (1, .ref (adC 0)), (0, .ref b)]) (hR : g_Rp gC D caC adC ((ao, ox) :: g_wW adR caR gR r0) (lj_A s) s.heap μ H locs) (hz : zi μ r0)
    (kk : ∀ (c1 r1 : g_St) (H1 : Heap) (locs1 : List Loc), zi c1 r1 → g_Rp gC D caC adC ((ao, ox) :: g_wW adR caR gR r1) (lj_A s) s.heap c1 H1 locs1 → W p l e room_1 s m #[Value.ref b] below meth c H1 locs1 cells slots Q (F0 m 1617 ls [])) :
    W p l e room_1 s m #[Value.ref b] below meth c H locs cells slots Q (F0 m 1539 ls []) := by
  by_cases hv : xs (i + 2).toNatClampNeg = 0
  · obtain ⟨x, c2, r2, hf, hm, hz2⟩ := zo_mark (F := 5000) (by decide) hz (xs (i + 1).toNatClampNeg) 0
    refine lv_aload_n hx hb dK_1539 rfl (lv_at hl 3 rfl) ?_
    refine lj_arg (k := 1) (nk := 1) hx hb hX hR.2.2 4 0 hl rfl rfl (fun st k => lv_iconst (v := 1) hx hb dK_1543 (by decide) k) (hi 1 (by decide) (by decide)) dK_1540 dK_1541 dK_1544 dK_1545 ?_
    refine lj_arg (k := 2) (nk := 1) hx hb hX hR.2.2 4 0 hl rfl rfl (fun st k => lv_iconst (v := 2) hx hb dK_1549 (by decide) k) (hi 2 (by decide) (by decide)) dK_1546 dK_1547 dK_1550 dK_1551 ?_
    refine lv_if_eq (tgt := 1559) hx hb dK_1552 (by decide) (fun _ => ?_) (fun h => absurd hv h)
    refine lv_iconst (v := 0) hx hb dK_1559 (by decide) ?_
    refine lj_cC (as := [.int _, .int _]) (st := []) (x := x) C hce hsl hl.1 hR dK_1560 (g_in5 (List.mem_of_getElem? (i := 5) rfl) rfl) mv_X8_mark mc_X8_mark rfl rfl (Nat.le_of_ble_eq_true rfl) (Nat.le_of_ble_eq_true rfl) (Nat.le_of_ble_eq_true rfl) (co_oo_mark _ _ _) hf rfl rfl (fun H locs hR => ?_)
    refine lv_aload_n hx hb dK_1563 rfl (lv_at hl 2 rfl) ?_
    refine lj_arg (k := 1) (nk := 1) hx hb hX hR.2.2 4 0 hl rfl rfl (fun st k => lv_iconst (v := 1) hx hb dK_1567 (by decide) k) (hi 1 (by decide) (by decide)) dK_1564 dK_1565 dK_1568 dK_1569 ?_
    refine lj_arg (k := 2) (nk := 1) hx hb hX hR.2.2 4 0 hl rfl rfl (fun st k => lv_iconst (v := 2) hx hb dK_1573 (by decide) k) (hi 2 (by decide) (by decide)) dK_1570 dK_1571 dK_1574 dK_1575 ?_
    refine lv_if_eq (tgt := 1583) hx hb dK_1576 (by decide) (fun _ => ?_) (fun h => absurd hv h)
    refine lv_iconst (v := 0) hx hb dK_1583 (by decide) ?_
    refine lj_cR (as := [.int _, .int _]) (st := [.int x]) (x := x) C hce hsl hl.1 hR dK_1584 (g_in8 (List.mem_of_getElem? (i := 18) rfl) rfl) mv_X9_mark mc_X9_mark rfl rfl (Nat.le_of_ble_eq_true rfl) (Nat.le_of_ble_eq_true rfl) (Nat.le_of_ble_eq_true rfl) (co_mm_mark 5000 _ _ _) hm rfl rfl (fun H locs hR => ?_)
    exact lj_same hx hb dK_1587 (by decide) (kk _ _ H locs hz2 hR)
  · obtain ⟨x, c2, r2, hf, hm, hz2⟩ := zo_mark (F := 5000) (by decide) hz (xs (i + 1).toNatClampNeg) 1
    refine lv_aload_n hx hb dK_1539 rfl (lv_at hl 3 rfl) ?_
    refine lj_arg (k := 1) (nk := 1) hx hb hX hR.2.2 4 0 hl rfl rfl (fun st k => lv_iconst (v := 1) hx hb dK_1543 (by decide) k) (hi 1 (by decide) (by decide)) dK_1540 dK_1541 dK_1544 dK_1545 ?_
    refine lj_arg (k := 2) (nk := 1) hx hb hX hR.2.2 4 0 hl rfl rfl (fun st k => lv_iconst (v := 2) hx hb dK_1549 (by decide) k) (hi 2 (by decide) (by decide)) dK_1546 dK_1547 dK_1550 dK_1551 ?_
    refine lv_if_eq (tgt := 1559) hx hb dK_1552 (by decide) (fun h => absurd h hv) (fun _ => ?_)
    refine lv_iconst (v := 1) hx hb dK_1555 (by decide) ?_
    refine lv_goto (tgt := 1560) hx hb dK_1556 (by decide) ?_
    refine lj_cC (as := [.int _, .int _]) (st := []) (x := x) C hce hsl hl.1 hR dK_1560 (g_in5 (List.mem_of_getElem? (i := 5) rfl) rfl) mv_X8_mark mc_X8_mark rfl rfl (Nat.le_of_ble_eq_true rfl) (Nat.le_of_ble_eq_true rfl) (Nat.le_of_ble_eq_true rfl) (co_oo_mark _ _ _) hf rfl rfl (fun H locs hR => ?_)
    refine lv_aload_n hx hb dK_1563 rfl (lv_at hl 2 rfl) ?_
    refine lj_arg (k := 1) (nk := 1) hx hb hX hR.2.2 4 0 hl rfl rfl (fun st k => lv_iconst (v := 1) hx hb dK_1567 (by decide) k) (hi 1 (by decide) (by decide)) dK_1564 dK_1565 dK_1568 dK_1569 ?_
    refine lj_arg (k := 2) (nk := 1) hx hb hX hR.2.2 4 0 hl rfl rfl (fun st k => lv_iconst (v := 2) hx hb dK_1573 (by decide) k) (hi 2 (by decide) (by decide)) dK_1570 dK_1571 dK_1574 dK_1575 ?_
    refine lv_if_eq (tgt := 1583) hx hb dK_1576 (by decide) (fun h => absurd h hv) (fun _ => ?_)
    refine lv_iconst (v := 1) hx hb dK_1579 (by decide) ?_
    refine lv_goto (tgt := 1584) hx hb dK_1580 (by decide) ?_
    refine lj_cR (as := [.int _, .int _]) (st := [.int x]) (x := x) C hce hsl hl.1 hR dK_1584 (g_in8 (List.mem_of_getElem? (i := 18) rfl) rfl) mv_X9_mark mc_X9_mark rfl rfl (Nat.le_of_ble_eq_true rfl) (Nat.le_of_ble_eq_true rfl) (Nat.le_of_ble_eq_true rfl) (co_mm_mark 5000 _ _ _) hm rfl rfl (fun H locs hR => ?_)
    exact lj_same hx hb dK_1587 (by decide) (kk _ _ H locs hz2 hR)
end LjKat
