/-! ===== THE LAW: its forty cases, its loop ===== -/
abbrev LV (G : GG) (b i : Nat) : List (Nat × Value) := [(0, .ref b), (1, .ref (g_ad G 0)), (2, .ref (g_ad G 49)), (3, .int (nI i))]
section LW
variable {p : Program} {l : Launch} {e : Env} {s : State} {m : MethodId} {below : List Frame} {meth : Method} {c : Code} {Q : State → Prop} {G : GG} {b L i : Nat} {xs : Nat → Int32}
theorem l_arg {k : Nat} {n : Int} {pc : Nat} {H : Heap} {locs : List Loc} {ls : Array Slot} {rest : List Value} {R : Room} {cells slots : Nat} (hx : p.tables.exec = Jvm.exec) (hb : c.code = cL_law) (hX : va_X b L xs s s.heap) (hbl : b < s.heap.size) (hbA : ¬ g_A G b) (hS : va_S (g_A G) s.heap H locs) (hl : lv_has ls 4 (LV G b i)) (hk : i + k < L) (hL : L ≤ 3072) (hn : Int32.ofInt n = nI k)
    (d0 : decode cL_law pc = .ok (.aload_n 0, 1)) (d1 : decode cL_law (pc + 1) = .ok (.iload_n 3, 1)) (d2 : decode cL_law (pc + 2) = .ok (.iconst n, 1)) (d3 : decode cL_law (pc + 3) = .ok (.iadd, 1)) (d4 : decode cL_law (pc + 4) = .ok (.iaload, 1))
    (kk : W p l e R s m #[Value.ref b] below meth c H locs cells slots Q (F0 m (pc + 5) ls (.int (xs (i + k)) :: rest))) : W p l e R s m #[Value.ref b] below meth c H locs cells slots Q (F0 m pc ls rest) := by
  refine lv_aload_n hx hb d0 rfl (lv_at hl 0 rfl) ?_
  refine lv_iload_n hx hb d1 rfl (lv_at hl 3 rfl) ?_
  refine lv_iconst (v := nI k) hx hb d2 hn ?_
  refine lv_iadd hx hb d3 ?_
  rw [nI_add]
  refine va_sld hx hb hX hbl hbA hS (vp_in_nI hk (by omega)) d4 ?_
  rw [nI_clamp (by omega)]
  exact kk
set_option maxHeartbeats 4000000 in
set_option maxRecDepth 100000 in
theorem lc_person (cx : Cx G cL_law RL 4 p s m #[Value.ref b] meth c) (hX : va_X b L xs s s.heap) (hbl : b < s.heap.size) (hbA : ¬ g_A G b) (hi : i + 6 ≤ L) (hL : L ≤ 3072) (kk : ∀ (M : Mem) (H : Heap) (locs : List Loc) (ls : Array Slot), RR M → WH G M H → va_S (g_A G) s.heap H locs → lv_has ls 4 (LV G b i) → W p l e room_1 s m #[Value.ref b] below meth c H locs 600000 7302250 Q (F0 m 1239 ls [])) {M : Mem} {H : Heap} {locs : List Loc} {ls : Array Slot} (hR : RR M) (hW : WH G M H) (hS : va_S (g_A G) s.heap H locs) (hl : lv_has ls 4 (LV G b i)) : W p l e room_1 s m #[Value.ref b] below meth c H locs 600000 7302250 Q (F0 m 208 ls []) := by
  obtain ⟨hx, hb, hml, hown, hts, hKK, hSS, hlk⟩ := id cx
  obtain ⟨r, M1, M2, h1, h2, h3⟩ := op_person hR (xs (i + 1))
  refine lv_aload_n hx hb dL_law_208 rfl (lv_at hl 1 rfl) ?_
  refine l_arg (k := 1) hx hb hX hbl hbA hS hl (by omega) hL (by decide) dL_law_209 dL_law_210 dL_law_211 dL_law_212 dL_law_213 ?_
  refine x_goi (x_runV cx hW hS (c_X7_person (l := l) (G := G) h1) cv_L_13 kc_0 rfl (rest := []) ⟨Nat.le_of_ble_eq_true rfl, Nat.le_of_ble_eq_true rfl⟩ hl.1 rfl rfl (Nat.le_of_ble_eq_true rfl) ⟨Nat.le_of_ble_eq_true rfl, Nat.le_of_ble_eq_true rfl⟩ dL_law_214) hS (fun H locs hW hS => ?_)
  refine lv_aload_n hx hb dL_law_217 rfl (lv_at hl 2 rfl) ?_
  refine l_arg (k := 1) hx hb hX hbl hbA hS hl (by omega) hL (by decide) dL_law_218 dL_law_219 dL_law_220 dL_law_221 dL_law_222 ?_
  refine x_goi (x_runV cx hW hS (c_X8_person (l := l) (G := G) h2) cv_L_17 kc_49 rfl (rest := [.int r]) ⟨Nat.le_of_ble_eq_true rfl, Nat.le_of_ble_eq_true rfl⟩ hl.1 rfl rfl (Nat.le_of_ble_eq_true rfl) ⟨Nat.le_of_ble_eq_true rfl, Nat.le_of_ble_eq_true rfl⟩ dL_law_223) hS (fun H locs hW hS => ?_)
  exact lv_icmp_eq (tgt := 1239) hx hb dL_law_226 (by decide) (fun _ => kk _ _ _ _ h3 hW hS hl) (fun q => absurd rfl q)
set_option maxHeartbeats 4000000 in
set_option maxRecDepth 100000 in
theorem lc_of (cx : Cx G cL_law RL 4 p s m #[Value.ref b] meth c) (hX : va_X b L xs s s.heap) (hbl : b < s.heap.size) (hbA : ¬ g_A G b) (hi : i + 6 ≤ L) (hL : L ≤ 3072) (kk : ∀ (M : Mem) (H : Heap) (locs : List Loc) (ls : Array Slot), RR M → WH G M H → va_S (g_A G) s.heap H locs → lv_has ls 4 (LV G b i) → W p l e room_1 s m #[Value.ref b] below meth c H locs 600000 7302250 Q (F0 m 1239 ls [])) {M : Mem} {H : Heap} {locs : List Loc} {ls : Array Slot} (hR : RR M) (hW : WH G M H) (hS : va_S (g_A G) s.heap H locs) (hl : lv_has ls 4 (LV G b i)) : W p l e room_1 s m #[Value.ref b] below meth c H locs 600000 7302250 Q (F0 m 231 ls []) := by
  obtain ⟨hx, hb, hml, hown, hts, hKK, hSS, hlk⟩ := id cx
  obtain ⟨r, M1, M2, h1, h2, h3⟩ := op_of hR (xs (i + 1)) (xs (i + 2))
  refine lv_aload_n hx hb dL_law_231 rfl (lv_at hl 1 rfl) ?_
  refine l_arg (k := 1) hx hb hX hbl hbA hS hl (by omega) hL (by decide) dL_law_232 dL_law_233 dL_law_234 dL_law_235 dL_law_236 ?_
  refine l_arg (k := 2) hx hb hX hbl hbA hS hl (by omega) hL (by decide) dL_law_237 dL_law_238 dL_law_239 dL_law_240 dL_law_241 ?_
  refine x_goi (x_runV cx hW hS (c_X7_of (l := l) (G := G) h1) cv_L_18 kc_0 rfl (rest := []) ⟨Nat.le_of_ble_eq_true rfl, Nat.le_of_ble_eq_true rfl⟩ hl.1 rfl rfl (Nat.le_of_ble_eq_true rfl) ⟨Nat.le_of_ble_eq_true rfl, Nat.le_of_ble_eq_true rfl⟩ dL_law_242) hS (fun H locs hW hS => ?_)
  refine lv_aload_n hx hb dL_law_245 rfl (lv_at hl 2 rfl) ?_
  refine l_arg (k := 1) hx hb hX hbl hbA hS hl (by omega) hL (by decide) dL_law_246 dL_law_247 dL_law_248 dL_law_249 dL_law_250 ?_
  refine l_arg (k := 2) hx hb hX hbl hbA hS hl (by omega) hL (by decide) dL_law_251 dL_law_252 dL_law_253 dL_law_254 dL_law_255 ?_
  refine x_goi (x_runV cx hW hS (c_X8_of (l := l) (G := G) h2) cv_L_22 kc_49 rfl (rest := [.int r]) ⟨Nat.le_of_ble_eq_true rfl, Nat.le_of_ble_eq_true rfl⟩ hl.1 rfl rfl (Nat.le_of_ble_eq_true rfl) ⟨Nat.le_of_ble_eq_true rfl, Nat.le_of_ble_eq_true rfl⟩ dL_law_256) hS (fun H locs hW hS => ?_)
  exact lv_icmp_eq (tgt := 1239) hx hb dL_law_259 (by decide) (fun _ => kk _ _ _ _ h3 hW hS hl) (fun q => absurd rfl q)
set_option maxHeartbeats 4000000 in
set_option maxRecDepth 100000 in
theorem lc_says (cx : Cx G cL_law RL 4 p s m #[Value.ref b] meth c) (hX : va_X b L xs s s.heap) (hbl : b < s.heap.size) (hbA : ¬ g_A G b) (hi : i + 6 ≤ L) (hL : L ≤ 3072) (kk : ∀ (M : Mem) (H : Heap) (locs : List Loc) (ls : Array Slot), RR M → WH G M H → va_S (g_A G) s.heap H locs → lv_has ls 4 (LV G b i) → W p l e room_1 s m #[Value.ref b] below meth c H locs 600000 7302250 Q (F0 m 1239 ls [])) {M : Mem} {H : Heap} {locs : List Loc} {ls : Array Slot} (hR : RR M) (hW : WH G M H) (hS : va_S (g_A G) s.heap H locs) (hl : lv_has ls 4 (LV G b i)) : W p l e room_1 s m #[Value.ref b] below meth c H locs 600000 7302250 Q (F0 m 264 ls []) := by
  obtain ⟨hx, hb, hml, hown, hts, hKK, hSS, hlk⟩ := id cx
  obtain ⟨r, M1, M2, h1, h2, h3⟩ := op_says hR (xs (i + 1))
  refine lv_aload_n hx hb dL_law_264 rfl (lv_at hl 1 rfl) ?_
  refine l_arg (k := 1) hx hb hX hbl hbA hS hl (by omega) hL (by decide) dL_law_265 dL_law_266 dL_law_267 dL_law_268 dL_law_269 ?_
  refine x_goi (x_runV cx hW hS (c_X7_says (l := l) (G := G) h1) cv_L_23 kc_0 rfl (rest := []) ⟨Nat.le_of_ble_eq_true rfl, Nat.le_of_ble_eq_true rfl⟩ hl.1 rfl rfl (Nat.le_of_ble_eq_true rfl) ⟨Nat.le_of_ble_eq_true rfl, Nat.le_of_ble_eq_true rfl⟩ dL_law_270) hS (fun H locs hW hS => ?_)
  refine lv_aload_n hx hb dL_law_273 rfl (lv_at hl 2 rfl) ?_
  refine l_arg (k := 1) hx hb hX hbl hbA hS hl (by omega) hL (by decide) dL_law_274 dL_law_275 dL_law_276 dL_law_277 dL_law_278 ?_
  refine x_goi (x_runV cx hW hS (c_X8_says (l := l) (G := G) h2) cv_L_26 kc_49 rfl (rest := [.int r]) ⟨Nat.le_of_ble_eq_true rfl, Nat.le_of_ble_eq_true rfl⟩ hl.1 rfl rfl (Nat.le_of_ble_eq_true rfl) ⟨Nat.le_of_ble_eq_true rfl, Nat.le_of_ble_eq_true rfl⟩ dL_law_279) hS (fun H locs hW hS => ?_)
  exact lv_icmp_eq (tgt := 1239) hx hb dL_law_282 (by decide) (fun _ => kk _ _ _ _ h3 hW hS hl) (fun q => absurd rfl q)
set_option maxHeartbeats 4000000 in
set_option maxRecDepth 100000 in
theorem lc_set (cx : Cx G cL_law RL 4 p s m #[Value.ref b] meth c) (hX : va_X b L xs s s.heap) (hbl : b < s.heap.size) (hbA : ¬ g_A G b) (hi : i + 6 ≤ L) (hL : L ≤ 3072) (kk : ∀ (M : Mem) (H : Heap) (locs : List Loc) (ls : Array Slot), RR M → WH G M H → va_S (g_A G) s.heap H locs → lv_has ls 4 (LV G b i) → W p l e room_1 s m #[Value.ref b] below meth c H locs 600000 7302250 Q (F0 m 1239 ls [])) {M : Mem} {H : Heap} {locs : List Loc} {ls : Array Slot} (hR : RR M) (hW : WH G M H) (hS : va_S (g_A G) s.heap H locs) (hl : lv_has ls 4 (LV G b i)) : W p l e room_1 s m #[Value.ref b] below meth c H locs 600000 7302250 Q (F0 m 287 ls []) := by
  obtain ⟨hx, hb, hml, hown, hts, hKK, hSS, hlk⟩ := id cx
  obtain ⟨r, M1, M2, h1, h2, h3⟩ := op_set hR (xs (i + 1)) (xs (i + 2)) (xs (i + 3))
  refine lv_aload_n hx hb dL_law_287 rfl (lv_at hl 1 rfl) ?_
  refine l_arg (k := 1) hx hb hX hbl hbA hS hl (by omega) hL (by decide) dL_law_288 dL_law_289 dL_law_290 dL_law_291 dL_law_292 ?_
  refine l_arg (k := 2) hx hb hX hbl hbA hS hl (by omega) hL (by decide) dL_law_293 dL_law_294 dL_law_295 dL_law_296 dL_law_297 ?_
  refine l_arg (k := 3) hx hb hX hbl hbA hS hl (by omega) hL (by decide) dL_law_298 dL_law_299 dL_law_300 dL_law_301 dL_law_302 ?_
  refine x_goi (x_runV cx hW hS (c_X7_set (l := l) (G := G) h1) cv_L_27 kc_0 rfl (rest := []) ⟨Nat.le_of_ble_eq_true rfl, Nat.le_of_ble_eq_true rfl⟩ hl.1 rfl rfl (Nat.le_of_ble_eq_true rfl) ⟨Nat.le_of_ble_eq_true rfl, Nat.le_of_ble_eq_true rfl⟩ dL_law_303) hS (fun H locs hW hS => ?_)
  refine lv_aload_n hx hb dL_law_306 rfl (lv_at hl 2 rfl) ?_
  refine l_arg (k := 1) hx hb hX hbl hbA hS hl (by omega) hL (by decide) dL_law_307 dL_law_308 dL_law_309 dL_law_310 dL_law_311 ?_
  refine l_arg (k := 2) hx hb hX hbl hbA hS hl (by omega) hL (by decide) dL_law_312 dL_law_313 dL_law_314 dL_law_315 dL_law_316 ?_
  refine l_arg (k := 3) hx hb hX hbl hbA hS hl (by omega) hL (by decide) dL_law_317 dL_law_318 dL_law_319 dL_law_320 dL_law_321 ?_
  refine x_goi (x_runV cx hW hS (c_X8_set (l := l) (G := G) h2) cv_L_31 kc_49 rfl (rest := [.int r]) ⟨Nat.le_of_ble_eq_true rfl, Nat.le_of_ble_eq_true rfl⟩ hl.1 rfl rfl (Nat.le_of_ble_eq_true rfl) ⟨Nat.le_of_ble_eq_true rfl, Nat.le_of_ble_eq_true rfl⟩ dL_law_322) hS (fun H locs hW hS => ?_)
  exact lv_icmp_eq (tgt := 1239) hx hb dL_law_325 (by decide) (fun _ => kk _ _ _ _ h3 hW hS hl) (fun q => absurd rfl q)
set_option maxHeartbeats 4000000 in
set_option maxRecDepth 100000 in
theorem lc_turn (cx : Cx G cL_law RL 4 p s m #[Value.ref b] meth c) (hX : va_X b L xs s s.heap) (hbl : b < s.heap.size) (hbA : ¬ g_A G b) (hi : i + 6 ≤ L) (hL : L ≤ 3072) (kk : ∀ (M : Mem) (H : Heap) (locs : List Loc) (ls : Array Slot), RR M → WH G M H → va_S (g_A G) s.heap H locs → lv_has ls 4 (LV G b i) → W p l e room_1 s m #[Value.ref b] below meth c H locs 600000 7302250 Q (F0 m 1239 ls [])) {M : Mem} {H : Heap} {locs : List Loc} {ls : Array Slot} (hR : RR M) (hW : WH G M H) (hS : va_S (g_A G) s.heap H locs) (hl : lv_has ls 4 (LV G b i)) : W p l e room_1 s m #[Value.ref b] below meth c H locs 600000 7302250 Q (F0 m 330 ls []) := by
  obtain ⟨hx, hb, hml, hown, hts, hKK, hSS, hlk⟩ := id cx
  obtain ⟨r, M1, M2, h1, h2, h3⟩ := op_turn hR (xs (i + 1)) (xs (i + 2))
  refine lv_aload_n hx hb dL_law_330 rfl (lv_at hl 1 rfl) ?_
  refine l_arg (k := 1) hx hb hX hbl hbA hS hl (by omega) hL (by decide) dL_law_331 dL_law_332 dL_law_333 dL_law_334 dL_law_335 ?_
  refine l_arg (k := 2) hx hb hX hbl hbA hS hl (by omega) hL (by decide) dL_law_336 dL_law_337 dL_law_338 dL_law_339 dL_law_340 ?_
  refine x_goi (x_runV cx hW hS (c_X7_turn (l := l) (G := G) h1) cv_L_32 kc_0 rfl (rest := []) ⟨Nat.le_of_ble_eq_true rfl, Nat.le_of_ble_eq_true rfl⟩ hl.1 rfl rfl (Nat.le_of_ble_eq_true rfl) ⟨Nat.le_of_ble_eq_true rfl, Nat.le_of_ble_eq_true rfl⟩ dL_law_341) hS (fun H locs hW hS => ?_)
  refine lv_aload_n hx hb dL_law_344 rfl (lv_at hl 2 rfl) ?_
  refine l_arg (k := 1) hx hb hX hbl hbA hS hl (by omega) hL (by decide) dL_law_345 dL_law_346 dL_law_347 dL_law_348 dL_law_349 ?_
  refine l_arg (k := 2) hx hb hX hbl hbA hS hl (by omega) hL (by decide) dL_law_350 dL_law_351 dL_law_352 dL_law_353 dL_law_354 ?_
  refine x_goi (x_runV cx hW hS (c_X8_turn (l := l) (G := G) h2) cv_L_35 kc_49 rfl (rest := [.int r]) ⟨Nat.le_of_ble_eq_true rfl, Nat.le_of_ble_eq_true rfl⟩ hl.1 rfl rfl (Nat.le_of_ble_eq_true rfl) ⟨Nat.le_of_ble_eq_true rfl, Nat.le_of_ble_eq_true rfl⟩ dL_law_355) hS (fun H locs hW hS => ?_)
  exact lv_icmp_eq (tgt := 1239) hx hb dL_law_358 (by decide) (fun _ => kk _ _ _ _ h3 hW hS hl) (fun q => absurd rfl q)
set_option maxHeartbeats 4000000 in
set_option maxRecDepth 100000 in
theorem lc_as (cx : Cx G cL_law RL 4 p s m #[Value.ref b] meth c) (hX : va_X b L xs s s.heap) (hbl : b < s.heap.size) (hbA : ¬ g_A G b) (hi : i + 6 ≤ L) (hL : L ≤ 3072) (kk : ∀ (M : Mem) (H : Heap) (locs : List Loc) (ls : Array Slot), RR M → WH G M H → va_S (g_A G) s.heap H locs → lv_has ls 4 (LV G b i) → W p l e room_1 s m #[Value.ref b] below meth c H locs 600000 7302250 Q (F0 m 1239 ls [])) {M : Mem} {H : Heap} {locs : List Loc} {ls : Array Slot} (hR : RR M) (hW : WH G M H) (hS : va_S (g_A G) s.heap H locs) (hl : lv_has ls 4 (LV G b i)) : W p l e room_1 s m #[Value.ref b] below meth c H locs 600000 7302250 Q (F0 m 363 ls []) := by
  obtain ⟨hx, hb, hml, hown, hts, hKK, hSS, hlk⟩ := id cx
  obtain ⟨r, M1, M2, h1, h2, h3⟩ := op_as hR (xs (i + 1)) (xs (i + 2))
  refine lv_aload_n hx hb dL_law_363 rfl (lv_at hl 1 rfl) ?_
  refine l_arg (k := 1) hx hb hX hbl hbA hS hl (by omega) hL (by decide) dL_law_364 dL_law_365 dL_law_366 dL_law_367 dL_law_368 ?_
  refine l_arg (k := 2) hx hb hX hbl hbA hS hl (by omega) hL (by decide) dL_law_369 dL_law_370 dL_law_371 dL_law_372 dL_law_373 ?_
  refine x_goi (x_runV cx hW hS (c_X7_as (l := l) (G := G) h1) cv_L_36 kc_0 rfl (rest := []) ⟨Nat.le_of_ble_eq_true rfl, Nat.le_of_ble_eq_true rfl⟩ hl.1 rfl rfl (Nat.le_of_ble_eq_true rfl) ⟨Nat.le_of_ble_eq_true rfl, Nat.le_of_ble_eq_true rfl⟩ dL_law_374) hS (fun H locs hW hS => ?_)
  refine lv_aload_n hx hb dL_law_377 rfl (lv_at hl 2 rfl) ?_
  refine l_arg (k := 1) hx hb hX hbl hbA hS hl (by omega) hL (by decide) dL_law_378 dL_law_379 dL_law_380 dL_law_381 dL_law_382 ?_
  refine l_arg (k := 2) hx hb hX hbl hbA hS hl (by omega) hL (by decide) dL_law_383 dL_law_384 dL_law_385 dL_law_386 dL_law_387 ?_
  refine x_goi (x_runV cx hW hS (c_X8_as (l := l) (G := G) h2) cv_L_39 kc_49 rfl (rest := [.int r]) ⟨Nat.le_of_ble_eq_true rfl, Nat.le_of_ble_eq_true rfl⟩ hl.1 rfl rfl (Nat.le_of_ble_eq_true rfl) ⟨Nat.le_of_ble_eq_true rfl, Nat.le_of_ble_eq_true rfl⟩ dL_law_388) hS (fun H locs hW hS => ?_)
  exact lv_icmp_eq (tgt := 1239) hx hb dL_law_391 (by decide) (fun _ => kk _ _ _ _ h3 hW hS hl) (fun q => absurd rfl q)
set_option maxHeartbeats 4000000 in
set_option maxRecDepth 100000 in
theorem lc_swap (cx : Cx G cL_law RL 4 p s m #[Value.ref b] meth c) (hX : va_X b L xs s s.heap) (hbl : b < s.heap.size) (hbA : ¬ g_A G b) (hi : i + 6 ≤ L) (hL : L ≤ 3072) (kk : ∀ (M : Mem) (H : Heap) (locs : List Loc) (ls : Array Slot), RR M → WH G M H → va_S (g_A G) s.heap H locs → lv_has ls 4 (LV G b i) → W p l e room_1 s m #[Value.ref b] below meth c H locs 600000 7302250 Q (F0 m 1239 ls [])) {M : Mem} {H : Heap} {locs : List Loc} {ls : Array Slot} (hR : RR M) (hW : WH G M H) (hS : va_S (g_A G) s.heap H locs) (hl : lv_has ls 4 (LV G b i)) : W p l e room_1 s m #[Value.ref b] below meth c H locs 600000 7302250 Q (F0 m 396 ls []) := by
  obtain ⟨hx, hb, hml, hown, hts, hKK, hSS, hlk⟩ := id cx
  obtain ⟨r, M1, M2, h1, h2, h3⟩ := op_swap hR (xs (i + 1)) (xs (i + 2))
  refine lv_aload_n hx hb dL_law_396 rfl (lv_at hl 1 rfl) ?_
  refine l_arg (k := 1) hx hb hX hbl hbA hS hl (by omega) hL (by decide) dL_law_397 dL_law_398 dL_law_399 dL_law_400 dL_law_401 ?_
  refine l_arg (k := 2) hx hb hX hbl hbA hS hl (by omega) hL (by decide) dL_law_402 dL_law_403 dL_law_404 dL_law_405 dL_law_406 ?_
  refine x_goi (x_runV cx hW hS (c_X7_swap (l := l) (G := G) h1) cv_L_40 kc_0 rfl (rest := []) ⟨Nat.le_of_ble_eq_true rfl, Nat.le_of_ble_eq_true rfl⟩ hl.1 rfl rfl (Nat.le_of_ble_eq_true rfl) ⟨Nat.le_of_ble_eq_true rfl, Nat.le_of_ble_eq_true rfl⟩ dL_law_407) hS (fun H locs hW hS => ?_)
  refine lv_aload_n hx hb dL_law_410 rfl (lv_at hl 2 rfl) ?_
  refine l_arg (k := 1) hx hb hX hbl hbA hS hl (by omega) hL (by decide) dL_law_411 dL_law_412 dL_law_413 dL_law_414 dL_law_415 ?_
  refine l_arg (k := 2) hx hb hX hbl hbA hS hl (by omega) hL (by decide) dL_law_416 dL_law_417 dL_law_418 dL_law_419 dL_law_420 ?_
  refine x_goi (x_runV cx hW hS (c_X8_swap (l := l) (G := G) h2) cv_L_43 kc_49 rfl (rest := [.int r]) ⟨Nat.le_of_ble_eq_true rfl, Nat.le_of_ble_eq_true rfl⟩ hl.1 rfl rfl (Nat.le_of_ble_eq_true rfl) ⟨Nat.le_of_ble_eq_true rfl, Nat.le_of_ble_eq_true rfl⟩ dL_law_421) hS (fun H locs hW hS => ?_)
  exact lv_icmp_eq (tgt := 1239) hx hb dL_law_424 (by decide) (fun _ => kk _ _ _ _ h3 hW hS hl) (fun q => absurd rfl q)
set_option maxHeartbeats 4000000 in
set_option maxRecDepth 100000 in
theorem lc_home (cx : Cx G cL_law RL 4 p s m #[Value.ref b] meth c) (hX : va_X b L xs s s.heap) (hbl : b < s.heap.size) (hbA : ¬ g_A G b) (hi : i + 6 ≤ L) (hL : L ≤ 3072) (kk : ∀ (M : Mem) (H : Heap) (locs : List Loc) (ls : Array Slot), RR M → WH G M H → va_S (g_A G) s.heap H locs → lv_has ls 4 (LV G b i) → W p l e room_1 s m #[Value.ref b] below meth c H locs 600000 7302250 Q (F0 m 1239 ls [])) {M : Mem} {H : Heap} {locs : List Loc} {ls : Array Slot} (hR : RR M) (hW : WH G M H) (hS : va_S (g_A G) s.heap H locs) (hl : lv_has ls 4 (LV G b i)) : W p l e room_1 s m #[Value.ref b] below meth c H locs 600000 7302250 Q (F0 m 429 ls []) := by
  obtain ⟨hx, hb, hml, hown, hts, hKK, hSS, hlk⟩ := id cx
  obtain ⟨r, M1, M2, h1, h2, h3⟩ := op_home hR
  refine lv_aload_n hx hb dL_law_429 rfl (lv_at hl 1 rfl) ?_
  refine x_goi (x_runV cx hW hS (c_X7_home (l := l) (G := G) h1) cv_L_44 kc_0 rfl (rest := []) ⟨Nat.le_of_ble_eq_true rfl, Nat.le_of_ble_eq_true rfl⟩ hl.1 rfl rfl (Nat.le_of_ble_eq_true rfl) ⟨Nat.le_of_ble_eq_true rfl, Nat.le_of_ble_eq_true rfl⟩ dL_law_430) hS (fun H locs hW hS => ?_)
  refine lv_aload_n hx hb dL_law_433 rfl (lv_at hl 2 rfl) ?_
  refine x_goi (x_runV cx hW hS (c_X8_home (l := l) (G := G) h2) cv_L_48 kc_49 rfl (rest := [.int r]) ⟨Nat.le_of_ble_eq_true rfl, Nat.le_of_ble_eq_true rfl⟩ hl.1 rfl rfl (Nat.le_of_ble_eq_true rfl) ⟨Nat.le_of_ble_eq_true rfl, Nat.le_of_ble_eq_true rfl⟩ dL_law_434) hS (fun H locs hW hS => ?_)
  exact lv_icmp_eq (tgt := 1239) hx hb dL_law_437 (by decide) (fun _ => kk _ _ _ _ h3 hW hS hl) (fun q => absurd rfl q)
set_option maxHeartbeats 4000000 in
set_option maxRecDepth 100000 in
theorem lc_draw (cx : Cx G cL_law RL 4 p s m #[Value.ref b] meth c) (hX : va_X b L xs s s.heap) (hbl : b < s.heap.size) (hbA : ¬ g_A G b) (hi : i + 6 ≤ L) (hL : L ≤ 3072) (kk : ∀ (M : Mem) (H : Heap) (locs : List Loc) (ls : Array Slot), RR M → WH G M H → va_S (g_A G) s.heap H locs → lv_has ls 4 (LV G b i) → W p l e room_1 s m #[Value.ref b] below meth c H locs 600000 7302250 Q (F0 m 1239 ls [])) {M : Mem} {H : Heap} {locs : List Loc} {ls : Array Slot} (hR : RR M) (hW : WH G M H) (hS : va_S (g_A G) s.heap H locs) (hl : lv_has ls 4 (LV G b i)) : W p l e room_1 s m #[Value.ref b] below meth c H locs 600000 7302250 Q (F0 m 442 ls []) := by
  obtain ⟨hx, hb, hml, hown, hts, hKK, hSS, hlk⟩ := id cx
  obtain ⟨r, M1, M2, h1, h2, h3⟩ := op_draw zd_ok hR
  refine lv_aload_n hx hb dL_law_442 rfl (lv_at hl 1 rfl) ?_
  refine x_goi (x_runV cx hW hS (c_X7_draw (l := l) (G := G) h1) cv_L_49 kc_0 rfl (rest := []) ⟨Nat.le_of_ble_eq_true rfl, Nat.le_of_ble_eq_true rfl⟩ hl.1 rfl rfl (Nat.le_of_ble_eq_true rfl) ⟨Nat.le_of_ble_eq_true rfl, Nat.le_of_ble_eq_true rfl⟩ dL_law_443) hS (fun H locs hW hS => ?_)
  refine lv_aload_n hx hb dL_law_446 rfl (lv_at hl 2 rfl) ?_
  refine x_goi (x_runV cx hW hS (c_X8_draw (l := l) (G := G) h2) cv_L_52 kc_49 rfl (rest := [.int r]) ⟨Nat.le_of_ble_eq_true rfl, Nat.le_of_ble_eq_true rfl⟩ hl.1 rfl rfl (Nat.le_of_ble_eq_true rfl) ⟨Nat.le_of_ble_eq_true rfl, Nat.le_of_ble_eq_true rfl⟩ dL_law_447) hS (fun H locs hW hS => ?_)
  exact lv_icmp_eq (tgt := 1239) hx hb dL_law_450 (by decide) (fun _ => kk _ _ _ _ h3 hW hS hl) (fun q => absurd rfl q)
set_option maxHeartbeats 4000000 in
set_option maxRecDepth 100000 in
theorem lc_seed (cx : Cx G cL_law RL 4 p s m #[Value.ref b] meth c) (hX : va_X b L xs s s.heap) (hbl : b < s.heap.size) (hbA : ¬ g_A G b) (hi : i + 6 ≤ L) (hL : L ≤ 3072) (kk : ∀ (M : Mem) (H : Heap) (locs : List Loc) (ls : Array Slot), RR M → WH G M H → va_S (g_A G) s.heap H locs → lv_has ls 4 (LV G b i) → W p l e room_1 s m #[Value.ref b] below meth c H locs 600000 7302250 Q (F0 m 1239 ls [])) {M : Mem} {H : Heap} {locs : List Loc} {ls : Array Slot} (hR : RR M) (hW : WH G M H) (hS : va_S (g_A G) s.heap H locs) (hl : lv_has ls 4 (LV G b i)) : W p l e room_1 s m #[Value.ref b] below meth c H locs 600000 7302250 Q (F0 m 455 ls []) := by
  obtain ⟨hx, hb, hml, hown, hts, hKK, hSS, hlk⟩ := id cx
  obtain ⟨r, M1, M2, h1, h2, h3⟩ := op_seed hR (xs (i + 1))
  refine lv_aload_n hx hb dL_law_455 rfl (lv_at hl 1 rfl) ?_
  refine l_arg (k := 1) hx hb hX hbl hbA hS hl (by omega) hL (by decide) dL_law_456 dL_law_457 dL_law_458 dL_law_459 dL_law_460 ?_
  refine x_goi (x_runV cx hW hS (c_X7_seed (l := l) (G := G) h1) cv_L_53 kc_0 rfl (rest := []) ⟨Nat.le_of_ble_eq_true rfl, Nat.le_of_ble_eq_true rfl⟩ hl.1 rfl rfl (Nat.le_of_ble_eq_true rfl) ⟨Nat.le_of_ble_eq_true rfl, Nat.le_of_ble_eq_true rfl⟩ dL_law_461) hS (fun H locs hW hS => ?_)
  refine lv_aload_n hx hb dL_law_464 rfl (lv_at hl 2 rfl) ?_
  refine l_arg (k := 1) hx hb hX hbl hbA hS hl (by omega) hL (by decide) dL_law_465 dL_law_466 dL_law_467 dL_law_468 dL_law_469 ?_
  refine x_goi (x_runV cx hW hS (c_X8_seed (l := l) (G := G) h2) cv_L_56 kc_49 rfl (rest := [.int r]) ⟨Nat.le_of_ble_eq_true rfl, Nat.le_of_ble_eq_true rfl⟩ hl.1 rfl rfl (Nat.le_of_ble_eq_true rfl) ⟨Nat.le_of_ble_eq_true rfl, Nat.le_of_ble_eq_true rfl⟩ dL_law_470) hS (fun H locs hW hS => ?_)
  exact lv_icmp_eq (tgt := 1239) hx hb dL_law_473 (by decide) (fun _ => kk _ _ _ _ h3 hW hS hl) (fun q => absurd rfl q)
set_option maxHeartbeats 4000000 in
set_option maxRecDepth 100000 in
theorem lc_fridays (cx : Cx G cL_law RL 4 p s m #[Value.ref b] meth c) (hX : va_X b L xs s s.heap) (hbl : b < s.heap.size) (hbA : ¬ g_A G b) (hi : i + 6 ≤ L) (hL : L ≤ 3072) (kk : ∀ (M : Mem) (H : Heap) (locs : List Loc) (ls : Array Slot), RR M → WH G M H → va_S (g_A G) s.heap H locs → lv_has ls 4 (LV G b i) → W p l e room_1 s m #[Value.ref b] below meth c H locs 600000 7302250 Q (F0 m 1239 ls [])) {M : Mem} {H : Heap} {locs : List Loc} {ls : Array Slot} (hR : RR M) (hW : WH G M H) (hS : va_S (g_A G) s.heap H locs) (hl : lv_has ls 4 (LV G b i)) : W p l e room_1 s m #[Value.ref b] below meth c H locs 600000 7302250 Q (F0 m 478 ls []) := by
  obtain ⟨hx, hb, hml, hown, hts, hKK, hSS, hlk⟩ := id cx
  obtain ⟨r, M1, M2, h1, h2, h3⟩ := op_fridays hR (xs (i + 1))
  refine lv_aload_n hx hb dL_law_478 rfl (lv_at hl 1 rfl) ?_
  refine l_arg (k := 1) hx hb hX hbl hbA hS hl (by omega) hL (by decide) dL_law_479 dL_law_480 dL_law_481 dL_law_482 dL_law_483 ?_
  refine x_goi (x_runV cx hW hS (c_X7_fridays (l := l) (G := G) h1) cv_L_57 kc_0 rfl (rest := []) ⟨Nat.le_of_ble_eq_true rfl, Nat.le_of_ble_eq_true rfl⟩ hl.1 rfl rfl (Nat.le_of_ble_eq_true rfl) ⟨Nat.le_of_ble_eq_true rfl, Nat.le_of_ble_eq_true rfl⟩ dL_law_484) hS (fun H locs hW hS => ?_)
  refine lv_aload_n hx hb dL_law_487 rfl (lv_at hl 2 rfl) ?_
  refine l_arg (k := 1) hx hb hX hbl hbA hS hl (by omega) hL (by decide) dL_law_488 dL_law_489 dL_law_490 dL_law_491 dL_law_492 ?_
  refine x_goi (x_runV cx hW hS (c_X8_fridays (l := l) (G := G) h2) cv_L_60 kc_49 rfl (rest := [.int r]) ⟨Nat.le_of_ble_eq_true rfl, Nat.le_of_ble_eq_true rfl⟩ hl.1 rfl rfl (Nat.le_of_ble_eq_true rfl) ⟨Nat.le_of_ble_eq_true rfl, Nat.le_of_ble_eq_true rfl⟩ dL_law_493) hS (fun H locs hW hS => ?_)
  exact lv_icmp_eq (tgt := 1239) hx hb dL_law_496 (by decide) (fun _ => kk _ _ _ _ h3 hW hS hl) (fun q => absurd rfl q)
set_option maxHeartbeats 4000000 in
set_option maxRecDepth 100000 in
theorem lc_season (cx : Cx G cL_law RL 4 p s m #[Value.ref b] meth c) (hX : va_X b L xs s s.heap) (hbl : b < s.heap.size) (hbA : ¬ g_A G b) (hi : i + 6 ≤ L) (hL : L ≤ 3072) (kk : ∀ (M : Mem) (H : Heap) (locs : List Loc) (ls : Array Slot), RR M → WH G M H → va_S (g_A G) s.heap H locs → lv_has ls 4 (LV G b i) → W p l e room_1 s m #[Value.ref b] below meth c H locs 600000 7302250 Q (F0 m 1239 ls [])) {M : Mem} {H : Heap} {locs : List Loc} {ls : Array Slot} (hR : RR M) (hW : WH G M H) (hS : va_S (g_A G) s.heap H locs) (hl : lv_has ls 4 (LV G b i)) : W p l e room_1 s m #[Value.ref b] below meth c H locs 600000 7302250 Q (F0 m 501 ls []) := by
  obtain ⟨hx, hb, hml, hown, hts, hKK, hSS, hlk⟩ := id cx
  obtain ⟨r, M1, M2, h1, h2, h3⟩ := op_season zd_ok hR (xs (i + 1))
  refine lv_aload_n hx hb dL_law_501 rfl (lv_at hl 1 rfl) ?_
  refine l_arg (k := 1) hx hb hX hbl hbA hS hl (by omega) hL (by decide) dL_law_502 dL_law_503 dL_law_504 dL_law_505 dL_law_506 ?_
  refine x_goi (x_runV cx hW hS (c_X7_season (l := l) (G := G) h1) cv_L_61 kc_0 rfl (rest := []) ⟨Nat.le_of_ble_eq_true rfl, Nat.le_of_ble_eq_true rfl⟩ hl.1 rfl rfl (Nat.le_of_ble_eq_true rfl) ⟨Nat.le_of_ble_eq_true rfl, Nat.le_of_ble_eq_true rfl⟩ dL_law_507) hS (fun H locs hW hS => ?_)
  refine lv_aload_n hx hb dL_law_510 rfl (lv_at hl 2 rfl) ?_
  refine l_arg (k := 1) hx hb hX hbl hbA hS hl (by omega) hL (by decide) dL_law_511 dL_law_512 dL_law_513 dL_law_514 dL_law_515 ?_
  refine x_goi (x_runV cx hW hS (c_X8_season (l := l) (G := G) h2) cv_L_64 kc_49 rfl (rest := [.int r]) ⟨Nat.le_of_ble_eq_true rfl, Nat.le_of_ble_eq_true rfl⟩ hl.1 rfl rfl (Nat.le_of_ble_eq_true rfl) ⟨Nat.le_of_ble_eq_true rfl, Nat.le_of_ble_eq_true rfl⟩ dL_law_516) hS (fun H locs hW hS => ?_)
  exact lv_icmp_eq (tgt := 1239) hx hb dL_law_519 (by decide) (fun _ => kk _ _ _ _ h3 hW hS hl) (fun q => absurd rfl q)
set_option maxHeartbeats 4000000 in
set_option maxRecDepth 100000 in
theorem lc_now (cx : Cx G cL_law RL 4 p s m #[Value.ref b] meth c) (hX : va_X b L xs s s.heap) (hbl : b < s.heap.size) (hbA : ¬ g_A G b) (hi : i + 6 ≤ L) (hL : L ≤ 3072) (kk : ∀ (M : Mem) (H : Heap) (locs : List Loc) (ls : Array Slot), RR M → WH G M H → va_S (g_A G) s.heap H locs → lv_has ls 4 (LV G b i) → W p l e room_1 s m #[Value.ref b] below meth c H locs 600000 7302250 Q (F0 m 1239 ls [])) {M : Mem} {H : Heap} {locs : List Loc} {ls : Array Slot} (hR : RR M) (hW : WH G M H) (hS : va_S (g_A G) s.heap H locs) (hl : lv_has ls 4 (LV G b i)) : W p l e room_1 s m #[Value.ref b] below meth c H locs 600000 7302250 Q (F0 m 524 ls []) := by
  obtain ⟨hx, hb, hml, hown, hts, hKK, hSS, hlk⟩ := id cx
  obtain ⟨r, M1, M2, h1, h2, h3⟩ := op_now hR (xs (i + 1))
  refine lv_aload_n hx hb dL_law_524 rfl (lv_at hl 1 rfl) ?_
  refine l_arg (k := 1) hx hb hX hbl hbA hS hl (by omega) hL (by decide) dL_law_525 dL_law_526 dL_law_527 dL_law_528 dL_law_529 ?_
  refine x_goi (x_runV cx hW hS (c_X7_now (l := l) (G := G) h1) cv_L_65 kc_0 rfl (rest := []) ⟨Nat.le_of_ble_eq_true rfl, Nat.le_of_ble_eq_true rfl⟩ hl.1 rfl rfl (Nat.le_of_ble_eq_true rfl) ⟨Nat.le_of_ble_eq_true rfl, Nat.le_of_ble_eq_true rfl⟩ dL_law_530) hS (fun H locs hW hS => ?_)
  refine lv_aload_n hx hb dL_law_533 rfl (lv_at hl 2 rfl) ?_
  refine l_arg (k := 1) hx hb hX hbl hbA hS hl (by omega) hL (by decide) dL_law_534 dL_law_535 dL_law_536 dL_law_537 dL_law_538 ?_
  refine x_goi (x_runV cx hW hS (c_X8_now (l := l) (G := G) h2) cv_L_68 kc_49 rfl (rest := [.int r]) ⟨Nat.le_of_ble_eq_true rfl, Nat.le_of_ble_eq_true rfl⟩ hl.1 rfl rfl (Nat.le_of_ble_eq_true rfl) ⟨Nat.le_of_ble_eq_true rfl, Nat.le_of_ble_eq_true rfl⟩ dL_law_539) hS (fun H locs hW hS => ?_)
  exact lv_icmp_eq (tgt := 1239) hx hb dL_law_542 (by decide) (fun _ => kk _ _ _ _ h3 hW hS hl) (fun q => absurd rfl q)
set_option maxHeartbeats 4000000 in
set_option maxRecDepth 100000 in
theorem lc_who (cx : Cx G cL_law RL 4 p s m #[Value.ref b] meth c) (hX : va_X b L xs s s.heap) (hbl : b < s.heap.size) (hbA : ¬ g_A G b) (hi : i + 6 ≤ L) (hL : L ≤ 3072) (kk : ∀ (M : Mem) (H : Heap) (locs : List Loc) (ls : Array Slot), RR M → WH G M H → va_S (g_A G) s.heap H locs → lv_has ls 4 (LV G b i) → W p l e room_1 s m #[Value.ref b] below meth c H locs 600000 7302250 Q (F0 m 1239 ls [])) {M : Mem} {H : Heap} {locs : List Loc} {ls : Array Slot} (hR : RR M) (hW : WH G M H) (hS : va_S (g_A G) s.heap H locs) (hl : lv_has ls 4 (LV G b i)) : W p l e room_1 s m #[Value.ref b] below meth c H locs 600000 7302250 Q (F0 m 547 ls []) := by
  obtain ⟨hx, hb, hml, hown, hts, hKK, hSS, hlk⟩ := id cx
  obtain ⟨r, M1, M2, h1, h2, h3⟩ := op_who hR (xs (i + 1))
  refine lv_aload_n hx hb dL_law_547 rfl (lv_at hl 1 rfl) ?_
  refine l_arg (k := 1) hx hb hX hbl hbA hS hl (by omega) hL (by decide) dL_law_548 dL_law_549 dL_law_550 dL_law_551 dL_law_552 ?_
  refine x_goi (x_runV cx hW hS (c_X7_who (l := l) (G := G) h1) cv_L_69 kc_0 rfl (rest := []) ⟨Nat.le_of_ble_eq_true rfl, Nat.le_of_ble_eq_true rfl⟩ hl.1 rfl rfl (Nat.le_of_ble_eq_true rfl) ⟨Nat.le_of_ble_eq_true rfl, Nat.le_of_ble_eq_true rfl⟩ dL_law_553) hS (fun H locs hW hS => ?_)
  refine lv_aload_n hx hb dL_law_556 rfl (lv_at hl 2 rfl) ?_
  refine l_arg (k := 1) hx hb hX hbl hbA hS hl (by omega) hL (by decide) dL_law_557 dL_law_558 dL_law_559 dL_law_560 dL_law_561 ?_
  refine x_goi (x_runV cx hW hS (c_X8_who (l := l) (G := G) h2) cv_L_72 kc_49 rfl (rest := [.int r]) ⟨Nat.le_of_ble_eq_true rfl, Nat.le_of_ble_eq_true rfl⟩ hl.1 rfl rfl (Nat.le_of_ble_eq_true rfl) ⟨Nat.le_of_ble_eq_true rfl, Nat.le_of_ble_eq_true rfl⟩ dL_law_562) hS (fun H locs hW hS => ?_)
  exact lv_icmp_eq (tgt := 1239) hx hb dL_law_565 (by decide) (fun _ => kk _ _ _ _ h3 hW hS hl) (fun q => absurd rfl q)
set_option maxHeartbeats 4000000 in
set_option maxRecDepth 100000 in
theorem lc_ring (cx : Cx G cL_law RL 4 p s m #[Value.ref b] meth c) (hX : va_X b L xs s s.heap) (hbl : b < s.heap.size) (hbA : ¬ g_A G b) (hi : i + 6 ≤ L) (hL : L ≤ 3072) (kk : ∀ (M : Mem) (H : Heap) (locs : List Loc) (ls : Array Slot), RR M → WH G M H → va_S (g_A G) s.heap H locs → lv_has ls 4 (LV G b i) → W p l e room_1 s m #[Value.ref b] below meth c H locs 600000 7302250 Q (F0 m 1239 ls [])) {M : Mem} {H : Heap} {locs : List Loc} {ls : Array Slot} (hR : RR M) (hW : WH G M H) (hS : va_S (g_A G) s.heap H locs) (hl : lv_has ls 4 (LV G b i)) : W p l e room_1 s m #[Value.ref b] below meth c H locs 600000 7302250 Q (F0 m 570 ls []) := by
  obtain ⟨hx, hb, hml, hown, hts, hKK, hSS, hlk⟩ := id cx
  obtain ⟨r, M1, M2, h1, h2, h3⟩ := op_ring hR (xs (i + 1))
  refine lv_aload_n hx hb dL_law_570 rfl (lv_at hl 1 rfl) ?_
  refine l_arg (k := 1) hx hb hX hbl hbA hS hl (by omega) hL (by decide) dL_law_571 dL_law_572 dL_law_573 dL_law_574 dL_law_575 ?_
  refine x_goi (x_runV cx hW hS (c_X7_ring (l := l) (G := G) h1) cv_L_73 kc_0 rfl (rest := []) ⟨Nat.le_of_ble_eq_true rfl, Nat.le_of_ble_eq_true rfl⟩ hl.1 rfl rfl (Nat.le_of_ble_eq_true rfl) ⟨Nat.le_of_ble_eq_true rfl, Nat.le_of_ble_eq_true rfl⟩ dL_law_576) hS (fun H locs hW hS => ?_)
  refine lv_aload_n hx hb dL_law_579 rfl (lv_at hl 2 rfl) ?_
  refine l_arg (k := 1) hx hb hX hbl hbA hS hl (by omega) hL (by decide) dL_law_580 dL_law_581 dL_law_582 dL_law_583 dL_law_584 ?_
  refine x_goi (x_runV cx hW hS (c_X8_ring (l := l) (G := G) h2) cv_L_76 kc_49 rfl (rest := [.int r]) ⟨Nat.le_of_ble_eq_true rfl, Nat.le_of_ble_eq_true rfl⟩ hl.1 rfl rfl (Nat.le_of_ble_eq_true rfl) ⟨Nat.le_of_ble_eq_true rfl, Nat.le_of_ble_eq_true rfl⟩ dL_law_585) hS (fun H locs hW hS => ?_)
  exact lv_icmp_eq (tgt := 1239) hx hb dL_law_588 (by decide) (fun _ => kk _ _ _ _ h3 hW hS hl) (fun q => absurd rfl q)
set_option maxHeartbeats 4000000 in
set_option maxRecDepth 100000 in
theorem lc_rings (cx : Cx G cL_law RL 4 p s m #[Value.ref b] meth c) (hX : va_X b L xs s s.heap) (hbl : b < s.heap.size) (hbA : ¬ g_A G b) (hi : i + 6 ≤ L) (hL : L ≤ 3072) (kk : ∀ (M : Mem) (H : Heap) (locs : List Loc) (ls : Array Slot), RR M → WH G M H → va_S (g_A G) s.heap H locs → lv_has ls 4 (LV G b i) → W p l e room_1 s m #[Value.ref b] below meth c H locs 600000 7302250 Q (F0 m 1239 ls [])) {M : Mem} {H : Heap} {locs : List Loc} {ls : Array Slot} (hR : RR M) (hW : WH G M H) (hS : va_S (g_A G) s.heap H locs) (hl : lv_has ls 4 (LV G b i)) : W p l e room_1 s m #[Value.ref b] below meth c H locs 600000 7302250 Q (F0 m 593 ls []) := by
  obtain ⟨hx, hb, hml, hown, hts, hKK, hSS, hlk⟩ := id cx
  obtain ⟨r, h1, h2⟩ := op_rings hR
  have h3 := hR
  refine lv_aload_n hx hb dL_law_593 rfl (lv_at hl 1 rfl) ?_
  refine x_goi (x_runV cx hW hS (c_X7_rings (l := l) (G := G) h1) cv_L_77 kc_0 rfl (rest := []) ⟨Nat.le_of_ble_eq_true rfl, Nat.le_of_ble_eq_true rfl⟩ hl.1 rfl rfl (Nat.le_of_ble_eq_true rfl) ⟨Nat.le_of_ble_eq_true rfl, Nat.le_of_ble_eq_true rfl⟩ dL_law_594) hS (fun H locs hW hS => ?_)
  refine lv_aload_n hx hb dL_law_597 rfl (lv_at hl 2 rfl) ?_
  refine x_goi (x_runV cx hW hS (c_X8_rings (l := l) (G := G) h2) cv_L_80 kc_49 rfl (rest := [.int r]) ⟨Nat.le_of_ble_eq_true rfl, Nat.le_of_ble_eq_true rfl⟩ hl.1 rfl rfl (Nat.le_of_ble_eq_true rfl) ⟨Nat.le_of_ble_eq_true rfl, Nat.le_of_ble_eq_true rfl⟩ dL_law_598) hS (fun H locs hW hS => ?_)
  exact lv_icmp_eq (tgt := 1239) hx hb dL_law_601 (by decide) (fun _ => kk _ _ _ _ h3 hW hS hl) (fun q => absurd rfl q)
set_option maxHeartbeats 4000000 in
set_option maxRecDepth 100000 in
theorem lc_pairs (cx : Cx G cL_law RL 4 p s m #[Value.ref b] meth c) (hX : va_X b L xs s s.heap) (hbl : b < s.heap.size) (hbA : ¬ g_A G b) (hi : i + 6 ≤ L) (hL : L ≤ 3072) (kk : ∀ (M : Mem) (H : Heap) (locs : List Loc) (ls : Array Slot), RR M → WH G M H → va_S (g_A G) s.heap H locs → lv_has ls 4 (LV G b i) → W p l e room_1 s m #[Value.ref b] below meth c H locs 600000 7302250 Q (F0 m 1239 ls [])) {M : Mem} {H : Heap} {locs : List Loc} {ls : Array Slot} (hR : RR M) (hW : WH G M H) (hS : va_S (g_A G) s.heap H locs) (hl : lv_has ls 4 (LV G b i)) : W p l e room_1 s m #[Value.ref b] below meth c H locs 600000 7302250 Q (F0 m 606 ls []) := by
  obtain ⟨hx, hb, hml, hown, hts, hKK, hSS, hlk⟩ := id cx
  obtain ⟨r, h1, h2⟩ := op_pairs hR
  have h3 := hR
  refine lv_aload_n hx hb dL_law_606 rfl (lv_at hl 1 rfl) ?_
  refine x_goi (x_runV cx hW hS (c_X7_pairs (l := l) (G := G) h1) cv_L_81 kc_0 rfl (rest := []) ⟨Nat.le_of_ble_eq_true rfl, Nat.le_of_ble_eq_true rfl⟩ hl.1 rfl rfl (Nat.le_of_ble_eq_true rfl) ⟨Nat.le_of_ble_eq_true rfl, Nat.le_of_ble_eq_true rfl⟩ dL_law_607) hS (fun H locs hW hS => ?_)
  refine lv_aload_n hx hb dL_law_610 rfl (lv_at hl 2 rfl) ?_
  refine x_goi (x_runV cx hW hS (c_X8_pairs (l := l) (G := G) h2) cv_L_84 kc_49 rfl (rest := [.int r]) ⟨Nat.le_of_ble_eq_true rfl, Nat.le_of_ble_eq_true rfl⟩ hl.1 rfl rfl (Nat.le_of_ble_eq_true rfl) ⟨Nat.le_of_ble_eq_true rfl, Nat.le_of_ble_eq_true rfl⟩ dL_law_611) hS (fun H locs hW hS => ?_)
  exact lv_icmp_eq (tgt := 1239) hx hb dL_law_614 (by decide) (fun _ => kk _ _ _ _ h3 hW hS hl) (fun q => absurd rfl q)
set_option maxHeartbeats 4000000 in
set_option maxRecDepth 100000 in
theorem lc_on (cx : Cx G cL_law RL 4 p s m #[Value.ref b] meth c) (hX : va_X b L xs s s.heap) (hbl : b < s.heap.size) (hbA : ¬ g_A G b) (hi : i + 6 ≤ L) (hL : L ≤ 3072) (kk : ∀ (M : Mem) (H : Heap) (locs : List Loc) (ls : Array Slot), RR M → WH G M H → va_S (g_A G) s.heap H locs → lv_has ls 4 (LV G b i) → W p l e room_1 s m #[Value.ref b] below meth c H locs 600000 7302250 Q (F0 m 1239 ls [])) {M : Mem} {H : Heap} {locs : List Loc} {ls : Array Slot} (hR : RR M) (hW : WH G M H) (hS : va_S (g_A G) s.heap H locs) (hl : lv_has ls 4 (LV G b i)) : W p l e room_1 s m #[Value.ref b] below meth c H locs 600000 7302250 Q (F0 m 619 ls []) := by
  obtain ⟨hx, hb, hml, hown, hts, hKK, hSS, hlk⟩ := id cx
  obtain ⟨r, M1, M2, h1, h2, h3⟩ := op_on hR (xs (i + 1)) (xs (i + 2)) (xs (i + 3))
  refine lv_aload_n hx hb dL_law_619 rfl (lv_at hl 1 rfl) ?_
  refine l_arg (k := 1) hx hb hX hbl hbA hS hl (by omega) hL (by decide) dL_law_620 dL_law_621 dL_law_622 dL_law_623 dL_law_624 ?_
  refine l_arg (k := 2) hx hb hX hbl hbA hS hl (by omega) hL (by decide) dL_law_625 dL_law_626 dL_law_627 dL_law_628 dL_law_629 ?_
  refine l_arg (k := 3) hx hb hX hbl hbA hS hl (by omega) hL (by decide) dL_law_630 dL_law_631 dL_law_632 dL_law_633 dL_law_634 ?_
  refine x_goi (x_runV cx hW hS (c_X7_on (l := l) (G := G) h1) cv_L_85 kc_0 rfl (rest := []) ⟨Nat.le_of_ble_eq_true rfl, Nat.le_of_ble_eq_true rfl⟩ hl.1 rfl rfl (Nat.le_of_ble_eq_true rfl) ⟨Nat.le_of_ble_eq_true rfl, Nat.le_of_ble_eq_true rfl⟩ dL_law_635) hS (fun H locs hW hS => ?_)
  refine lv_aload_n hx hb dL_law_638 rfl (lv_at hl 2 rfl) ?_
  refine l_arg (k := 1) hx hb hX hbl hbA hS hl (by omega) hL (by decide) dL_law_639 dL_law_640 dL_law_641 dL_law_642 dL_law_643 ?_
  refine l_arg (k := 2) hx hb hX hbl hbA hS hl (by omega) hL (by decide) dL_law_644 dL_law_645 dL_law_646 dL_law_647 dL_law_648 ?_
  refine l_arg (k := 3) hx hb hX hbl hbA hS hl (by omega) hL (by decide) dL_law_649 dL_law_650 dL_law_651 dL_law_652 dL_law_653 ?_
  refine x_goi (x_runV cx hW hS (c_X8_on (l := l) (G := G) h2) cv_L_88 kc_49 rfl (rest := [.int r]) ⟨Nat.le_of_ble_eq_true rfl, Nat.le_of_ble_eq_true rfl⟩ hl.1 rfl rfl (Nat.le_of_ble_eq_true rfl) ⟨Nat.le_of_ble_eq_true rfl, Nat.le_of_ble_eq_true rfl⟩ dL_law_654) hS (fun H locs hW hS => ?_)
  exact lv_icmp_eq (tgt := 1239) hx hb dL_law_657 (by decide) (fun _ => kk _ _ _ _ h3 hW hS hl) (fun q => absurd rfl q)
set_option maxHeartbeats 4000000 in
set_option maxRecDepth 100000 in
theorem lc_itself (cx : Cx G cL_law RL 4 p s m #[Value.ref b] meth c) (hX : va_X b L xs s s.heap) (hbl : b < s.heap.size) (hbA : ¬ g_A G b) (hi : i + 6 ≤ L) (hL : L ≤ 3072) (kk : ∀ (M : Mem) (H : Heap) (locs : List Loc) (ls : Array Slot), RR M → WH G M H → va_S (g_A G) s.heap H locs → lv_has ls 4 (LV G b i) → W p l e room_1 s m #[Value.ref b] below meth c H locs 600000 7302250 Q (F0 m 1239 ls [])) {M : Mem} {H : Heap} {locs : List Loc} {ls : Array Slot} (hR : RR M) (hW : WH G M H) (hS : va_S (g_A G) s.heap H locs) (hl : lv_has ls 4 (LV G b i)) : W p l e room_1 s m #[Value.ref b] below meth c H locs 600000 7302250 Q (F0 m 662 ls []) := by
  obtain ⟨hx, hb, hml, hown, hts, hKK, hSS, hlk⟩ := id cx
  obtain ⟨r, M1, M2, h1, h2, h3⟩ := op_itself zd_ok hR (xs (i + 1))
  refine lv_aload_n hx hb dL_law_662 rfl (lv_at hl 1 rfl) ?_
  refine l_arg (k := 1) hx hb hX hbl hbA hS hl (by omega) hL (by decide) dL_law_663 dL_law_664 dL_law_665 dL_law_666 dL_law_667 ?_
  refine x_goi (x_runV cx hW hS (c_X7_itself (l := l) (G := G) h1) cv_L_89 kc_0 rfl (rest := []) ⟨Nat.le_of_ble_eq_true rfl, Nat.le_of_ble_eq_true rfl⟩ hl.1 rfl rfl (Nat.le_of_ble_eq_true rfl) ⟨Nat.le_of_ble_eq_true rfl, Nat.le_of_ble_eq_true rfl⟩ dL_law_668) hS (fun H locs hW hS => ?_)
  refine lv_aload_n hx hb dL_law_671 rfl (lv_at hl 2 rfl) ?_
  refine l_arg (k := 1) hx hb hX hbl hbA hS hl (by omega) hL (by decide) dL_law_672 dL_law_673 dL_law_674 dL_law_675 dL_law_676 ?_
  refine x_goi (x_runV cx hW hS (c_X8_itself (l := l) (G := G) h2) cv_L_92 kc_49 rfl (rest := [.int r]) ⟨Nat.le_of_ble_eq_true rfl, Nat.le_of_ble_eq_true rfl⟩ hl.1 rfl rfl (Nat.le_of_ble_eq_true rfl) ⟨Nat.le_of_ble_eq_true rfl, Nat.le_of_ble_eq_true rfl⟩ dL_law_677) hS (fun H locs hW hS => ?_)
  exact lv_icmp_eq (tgt := 1239) hx hb dL_law_680 (by decide) (fun _ => kk _ _ _ _ h3 hW hS hl) (fun q => absurd rfl q)
set_option maxHeartbeats 4000000 in
set_option maxRecDepth 100000 in
theorem lc_most (cx : Cx G cL_law RL 4 p s m #[Value.ref b] meth c) (hX : va_X b L xs s s.heap) (hbl : b < s.heap.size) (hbA : ¬ g_A G b) (hi : i + 6 ≤ L) (hL : L ≤ 3072) (kk : ∀ (M : Mem) (H : Heap) (locs : List Loc) (ls : Array Slot), RR M → WH G M H → va_S (g_A G) s.heap H locs → lv_has ls 4 (LV G b i) → W p l e room_1 s m #[Value.ref b] below meth c H locs 600000 7302250 Q (F0 m 1239 ls [])) {M : Mem} {H : Heap} {locs : List Loc} {ls : Array Slot} (hR : RR M) (hW : WH G M H) (hS : va_S (g_A G) s.heap H locs) (hl : lv_has ls 4 (LV G b i)) : W p l e room_1 s m #[Value.ref b] below meth c H locs 600000 7302250 Q (F0 m 685 ls []) := by
  obtain ⟨hx, hb, hml, hown, hts, hKK, hSS, hlk⟩ := id cx
  obtain ⟨r, M1, M2, h1, h2, h3⟩ := op_most hR
  refine lv_aload_n hx hb dL_law_685 rfl (lv_at hl 1 rfl) ?_
  refine x_goi (x_runV cx hW hS (c_X7_most (l := l) (G := G) h1) cv_L_93 kc_0 rfl (rest := []) ⟨Nat.le_of_ble_eq_true rfl, Nat.le_of_ble_eq_true rfl⟩ hl.1 rfl rfl (Nat.le_of_ble_eq_true rfl) ⟨Nat.le_of_ble_eq_true rfl, Nat.le_of_ble_eq_true rfl⟩ dL_law_686) hS (fun H locs hW hS => ?_)
  refine lv_aload_n hx hb dL_law_689 rfl (lv_at hl 2 rfl) ?_
  refine x_goi (x_runV cx hW hS (c_X8_most (l := l) (G := G) h2) cv_L_96 kc_49 rfl (rest := [.int r]) ⟨Nat.le_of_ble_eq_true rfl, Nat.le_of_ble_eq_true rfl⟩ hl.1 rfl rfl (Nat.le_of_ble_eq_true rfl) ⟨Nat.le_of_ble_eq_true rfl, Nat.le_of_ble_eq_true rfl⟩ dL_law_690) hS (fun H locs hW hS => ?_)
  exact lv_icmp_eq (tgt := 1239) hx hb dL_law_693 (by decide) (fun _ => kk _ _ _ _ h3 hW hS hl) (fun q => absurd rfl q)
set_option maxHeartbeats 4000000 in
set_option maxRecDepth 100000 in
theorem lc_slip (cx : Cx G cL_law RL 4 p s m #[Value.ref b] meth c) (hX : va_X b L xs s s.heap) (hbl : b < s.heap.size) (hbA : ¬ g_A G b) (hi : i + 6 ≤ L) (hL : L ≤ 3072) (kk : ∀ (M : Mem) (H : Heap) (locs : List Loc) (ls : Array Slot), RR M → WH G M H → va_S (g_A G) s.heap H locs → lv_has ls 4 (LV G b i) → W p l e room_1 s m #[Value.ref b] below meth c H locs 600000 7302250 Q (F0 m 1239 ls [])) {M : Mem} {H : Heap} {locs : List Loc} {ls : Array Slot} (hR : RR M) (hW : WH G M H) (hS : va_S (g_A G) s.heap H locs) (hl : lv_has ls 4 (LV G b i)) : W p l e room_1 s m #[Value.ref b] below meth c H locs 600000 7302250 Q (F0 m 698 ls []) := by
  obtain ⟨hx, hb, hml, hown, hts, hKK, hSS, hlk⟩ := id cx
  obtain ⟨r, M1, M2, h1, h2, h3⟩ := op_slip hR (xs (i + 1))
  refine lv_aload_n hx hb dL_law_698 rfl (lv_at hl 1 rfl) ?_
  refine l_arg (k := 1) hx hb hX hbl hbA hS hl (by omega) hL (by decide) dL_law_699 dL_law_700 dL_law_701 dL_law_702 dL_law_703 ?_
  refine x_goi (x_runV cx hW hS (c_X7_slip (l := l) (G := G) h1) cv_L_97 kc_0 rfl (rest := []) ⟨Nat.le_of_ble_eq_true rfl, Nat.le_of_ble_eq_true rfl⟩ hl.1 rfl rfl (Nat.le_of_ble_eq_true rfl) ⟨Nat.le_of_ble_eq_true rfl, Nat.le_of_ble_eq_true rfl⟩ dL_law_704) hS (fun H locs hW hS => ?_)
  refine lv_aload_n hx hb dL_law_707 rfl (lv_at hl 2 rfl) ?_
  refine l_arg (k := 1) hx hb hX hbl hbA hS hl (by omega) hL (by decide) dL_law_708 dL_law_709 dL_law_710 dL_law_711 dL_law_712 ?_
  refine x_goi (x_runV cx hW hS (c_X8_slip (l := l) (G := G) h2) cv_L_100 kc_49 rfl (rest := [.int r]) ⟨Nat.le_of_ble_eq_true rfl, Nat.le_of_ble_eq_true rfl⟩ hl.1 rfl rfl (Nat.le_of_ble_eq_true rfl) ⟨Nat.le_of_ble_eq_true rfl, Nat.le_of_ble_eq_true rfl⟩ dL_law_713) hS (fun H locs hW hS => ?_)
  exact lv_icmp_eq (tgt := 1239) hx hb dL_law_716 (by decide) (fun _ => kk _ _ _ _ h3 hW hS hl) (fun q => absurd rfl q)
set_option maxHeartbeats 4000000 in
set_option maxRecDepth 100000 in
theorem lc_better (cx : Cx G cL_law RL 4 p s m #[Value.ref b] meth c) (hX : va_X b L xs s s.heap) (hbl : b < s.heap.size) (hbA : ¬ g_A G b) (hi : i + 6 ≤ L) (hL : L ≤ 3072) (kk : ∀ (M : Mem) (H : Heap) (locs : List Loc) (ls : Array Slot), RR M → WH G M H → va_S (g_A G) s.heap H locs → lv_has ls 4 (LV G b i) → W p l e room_1 s m #[Value.ref b] below meth c H locs 600000 7302250 Q (F0 m 1239 ls [])) {M : Mem} {H : Heap} {locs : List Loc} {ls : Array Slot} (hR : RR M) (hW : WH G M H) (hS : va_S (g_A G) s.heap H locs) (hl : lv_has ls 4 (LV G b i)) : W p l e room_1 s m #[Value.ref b] below meth c H locs 600000 7302250 Q (F0 m 721 ls []) := by
  obtain ⟨hx, hb, hml, hown, hts, hKK, hSS, hlk⟩ := id cx
  obtain ⟨r, M1, M2, h1, h2, h3⟩ := op_better hR
  refine lv_aload_n hx hb dL_law_721 rfl (lv_at hl 1 rfl) ?_
  refine x_goi (x_runV cx hW hS (c_X7_better (l := l) (G := G) h1) cv_L_101 kc_0 rfl (rest := []) ⟨Nat.le_of_ble_eq_true rfl, Nat.le_of_ble_eq_true rfl⟩ hl.1 rfl rfl (Nat.le_of_ble_eq_true rfl) ⟨Nat.le_of_ble_eq_true rfl, Nat.le_of_ble_eq_true rfl⟩ dL_law_722) hS (fun H locs hW hS => ?_)
  refine lv_aload_n hx hb dL_law_725 rfl (lv_at hl 2 rfl) ?_
  refine x_goi (x_runV cx hW hS (c_X8_better (l := l) (G := G) h2) cv_L_104 kc_49 rfl (rest := [.int r]) ⟨Nat.le_of_ble_eq_true rfl, Nat.le_of_ble_eq_true rfl⟩ hl.1 rfl rfl (Nat.le_of_ble_eq_true rfl) ⟨Nat.le_of_ble_eq_true rfl, Nat.le_of_ble_eq_true rfl⟩ dL_law_726) hS (fun H locs hW hS => ?_)
  exact lv_icmp_eq (tgt := 1239) hx hb dL_law_729 (by decide) (fun _ => kk _ _ _ _ h3 hW hS hl) (fun q => absurd rfl q)
set_option maxHeartbeats 4000000 in
set_option maxRecDepth 100000 in
theorem lc_bestAs (cx : Cx G cL_law RL 4 p s m #[Value.ref b] meth c) (hX : va_X b L xs s s.heap) (hbl : b < s.heap.size) (hbA : ¬ g_A G b) (hi : i + 6 ≤ L) (hL : L ≤ 3072) (kk : ∀ (M : Mem) (H : Heap) (locs : List Loc) (ls : Array Slot), RR M → WH G M H → va_S (g_A G) s.heap H locs → lv_has ls 4 (LV G b i) → W p l e room_1 s m #[Value.ref b] below meth c H locs 600000 7302250 Q (F0 m 1239 ls [])) {M : Mem} {H : Heap} {locs : List Loc} {ls : Array Slot} (hR : RR M) (hW : WH G M H) (hS : va_S (g_A G) s.heap H locs) (hl : lv_has ls 4 (LV G b i)) : W p l e room_1 s m #[Value.ref b] below meth c H locs 600000 7302250 Q (F0 m 734 ls []) := by
  obtain ⟨hx, hb, hml, hown, hts, hKK, hSS, hlk⟩ := id cx
  obtain ⟨r, M1, M2, h1, h2, h3⟩ := op_bestAs hR (xs (i + 1))
  refine lv_aload_n hx hb dL_law_734 rfl (lv_at hl 1 rfl) ?_
  refine l_arg (k := 1) hx hb hX hbl hbA hS hl (by omega) hL (by decide) dL_law_735 dL_law_736 dL_law_737 dL_law_738 dL_law_739 ?_
  refine x_goi (x_runV cx hW hS (c_X7_bestAs (l := l) (G := G) h1) cv_L_105 kc_0 rfl (rest := []) ⟨Nat.le_of_ble_eq_true rfl, Nat.le_of_ble_eq_true rfl⟩ hl.1 rfl rfl (Nat.le_of_ble_eq_true rfl) ⟨Nat.le_of_ble_eq_true rfl, Nat.le_of_ble_eq_true rfl⟩ dL_law_740) hS (fun H locs hW hS => ?_)
  refine lv_aload_n hx hb dL_law_743 rfl (lv_at hl 2 rfl) ?_
  refine l_arg (k := 1) hx hb hX hbl hbA hS hl (by omega) hL (by decide) dL_law_744 dL_law_745 dL_law_746 dL_law_747 dL_law_748 ?_
  refine x_goi (x_runV cx hW hS (c_X8_bestAs (l := l) (G := G) h2) cv_L_108 kc_49 rfl (rest := [.int r]) ⟨Nat.le_of_ble_eq_true rfl, Nat.le_of_ble_eq_true rfl⟩ hl.1 rfl rfl (Nat.le_of_ble_eq_true rfl) ⟨Nat.le_of_ble_eq_true rfl, Nat.le_of_ble_eq_true rfl⟩ dL_law_749) hS (fun H locs hW hS => ?_)
  exact lv_icmp_eq (tgt := 1239) hx hb dL_law_752 (by decide) (fun _ => kk _ _ _ _ h3 hW hS hl) (fun q => absurd rfl q)
set_option maxHeartbeats 4000000 in
set_option maxRecDepth 100000 in
theorem lc_kind (cx : Cx G cL_law RL 4 p s m #[Value.ref b] meth c) (hX : va_X b L xs s s.heap) (hbl : b < s.heap.size) (hbA : ¬ g_A G b) (hi : i + 6 ≤ L) (hL : L ≤ 3072) (kk : ∀ (M : Mem) (H : Heap) (locs : List Loc) (ls : Array Slot), RR M → WH G M H → va_S (g_A G) s.heap H locs → lv_has ls 4 (LV G b i) → W p l e room_1 s m #[Value.ref b] below meth c H locs 600000 7302250 Q (F0 m 1239 ls [])) {M : Mem} {H : Heap} {locs : List Loc} {ls : Array Slot} (hR : RR M) (hW : WH G M H) (hS : va_S (g_A G) s.heap H locs) (hl : lv_has ls 4 (LV G b i)) : W p l e room_1 s m #[Value.ref b] below meth c H locs 600000 7302250 Q (F0 m 757 ls []) := by
  obtain ⟨hx, hb, hml, hown, hts, hKK, hSS, hlk⟩ := id cx
  obtain ⟨r, M1, M2, h1, h2, h3⟩ := op_kind hR (xs (i + 1))
  refine lv_aload_n hx hb dL_law_757 rfl (lv_at hl 1 rfl) ?_
  refine l_arg (k := 1) hx hb hX hbl hbA hS hl (by omega) hL (by decide) dL_law_758 dL_law_759 dL_law_760 dL_law_761 dL_law_762 ?_
  refine x_goi (x_runV cx hW hS (c_X7_kind (l := l) (G := G) h1) cv_L_109 kc_0 rfl (rest := []) ⟨Nat.le_of_ble_eq_true rfl, Nat.le_of_ble_eq_true rfl⟩ hl.1 rfl rfl (Nat.le_of_ble_eq_true rfl) ⟨Nat.le_of_ble_eq_true rfl, Nat.le_of_ble_eq_true rfl⟩ dL_law_763) hS (fun H locs hW hS => ?_)
  refine lv_aload_n hx hb dL_law_766 rfl (lv_at hl 2 rfl) ?_
  refine l_arg (k := 1) hx hb hX hbl hbA hS hl (by omega) hL (by decide) dL_law_767 dL_law_768 dL_law_769 dL_law_770 dL_law_771 ?_
  refine x_goi (x_runV cx hW hS (c_X8_kind (l := l) (G := G) h2) cv_L_112 kc_49 rfl (rest := [.int r]) ⟨Nat.le_of_ble_eq_true rfl, Nat.le_of_ble_eq_true rfl⟩ hl.1 rfl rfl (Nat.le_of_ble_eq_true rfl) ⟨Nat.le_of_ble_eq_true rfl, Nat.le_of_ble_eq_true rfl⟩ dL_law_772) hS (fun H locs hW hS => ?_)
  exact lv_icmp_eq (tgt := 1239) hx hb dL_law_775 (by decide) (fun _ => kk _ _ _ _ h3 hW hS hl) (fun q => absurd rfl q)
set_option maxHeartbeats 4000000 in
set_option maxRecDepth 100000 in
theorem lc_odds (cx : Cx G cL_law RL 4 p s m #[Value.ref b] meth c) (hX : va_X b L xs s s.heap) (hbl : b < s.heap.size) (hbA : ¬ g_A G b) (hi : i + 6 ≤ L) (hL : L ≤ 3072) (kk : ∀ (M : Mem) (H : Heap) (locs : List Loc) (ls : Array Slot), RR M → WH G M H → va_S (g_A G) s.heap H locs → lv_has ls 4 (LV G b i) → W p l e room_1 s m #[Value.ref b] below meth c H locs 600000 7302250 Q (F0 m 1239 ls [])) {M : Mem} {H : Heap} {locs : List Loc} {ls : Array Slot} (hR : RR M) (hW : WH G M H) (hS : va_S (g_A G) s.heap H locs) (hl : lv_has ls 4 (LV G b i)) : W p l e room_1 s m #[Value.ref b] below meth c H locs 600000 7302250 Q (F0 m 780 ls []) := by
  obtain ⟨hx, hb, hml, hown, hts, hKK, hSS, hlk⟩ := id cx
  obtain ⟨r, M1, M2, h1, h2, h3⟩ := op_odds hR (xs (i + 1))
  refine lv_aload_n hx hb dL_law_780 rfl (lv_at hl 1 rfl) ?_
  refine l_arg (k := 1) hx hb hX hbl hbA hS hl (by omega) hL (by decide) dL_law_781 dL_law_782 dL_law_783 dL_law_784 dL_law_785 ?_
  refine x_goi (x_runV cx hW hS (c_X7_odds (l := l) (G := G) h1) cv_L_113 kc_0 rfl (rest := []) ⟨Nat.le_of_ble_eq_true rfl, Nat.le_of_ble_eq_true rfl⟩ hl.1 rfl rfl (Nat.le_of_ble_eq_true rfl) ⟨Nat.le_of_ble_eq_true rfl, Nat.le_of_ble_eq_true rfl⟩ dL_law_786) hS (fun H locs hW hS => ?_)
  refine lv_aload_n hx hb dL_law_789 rfl (lv_at hl 2 rfl) ?_
  refine l_arg (k := 1) hx hb hX hbl hbA hS hl (by omega) hL (by decide) dL_law_790 dL_law_791 dL_law_792 dL_law_793 dL_law_794 ?_
  refine x_goi (x_runV cx hW hS (c_X8_odds (l := l) (G := G) h2) cv_L_116 kc_49 rfl (rest := [.int r]) ⟨Nat.le_of_ble_eq_true rfl, Nat.le_of_ble_eq_true rfl⟩ hl.1 rfl rfl (Nat.le_of_ble_eq_true rfl) ⟨Nat.le_of_ble_eq_true rfl, Nat.le_of_ble_eq_true rfl⟩ dL_law_795) hS (fun H locs hW hS => ?_)
  exact lv_icmp_eq (tgt := 1239) hx hb dL_law_798 (by decide) (fun _ => kk _ _ _ _ h3 hW hS hl) (fun q => absurd rfl q)
set_option maxHeartbeats 4000000 in
set_option maxRecDepth 100000 in
theorem lc_lots (cx : Cx G cL_law RL 4 p s m #[Value.ref b] meth c) (hX : va_X b L xs s s.heap) (hbl : b < s.heap.size) (hbA : ¬ g_A G b) (hi : i + 6 ≤ L) (hL : L ≤ 3072) (kk : ∀ (M : Mem) (H : Heap) (locs : List Loc) (ls : Array Slot), RR M → WH G M H → va_S (g_A G) s.heap H locs → lv_has ls 4 (LV G b i) → W p l e room_1 s m #[Value.ref b] below meth c H locs 600000 7302250 Q (F0 m 1239 ls [])) {M : Mem} {H : Heap} {locs : List Loc} {ls : Array Slot} (hR : RR M) (hW : WH G M H) (hS : va_S (g_A G) s.heap H locs) (hl : lv_has ls 4 (LV G b i)) : W p l e room_1 s m #[Value.ref b] below meth c H locs 600000 7302250 Q (F0 m 803 ls []) := by
  obtain ⟨hx, hb, hml, hown, hts, hKK, hSS, hlk⟩ := id cx
  obtain ⟨r, M1, M2, h1, h2, h3⟩ := op_lots hR (xs (i + 1))
  refine lv_aload_n hx hb dL_law_803 rfl (lv_at hl 1 rfl) ?_
  refine l_arg (k := 1) hx hb hX hbl hbA hS hl (by omega) hL (by decide) dL_law_804 dL_law_805 dL_law_806 dL_law_807 dL_law_808 ?_
  refine x_goi (x_runV cx hW hS (c_X7_lots (l := l) (G := G) h1) cv_L_117 kc_0 rfl (rest := []) ⟨Nat.le_of_ble_eq_true rfl, Nat.le_of_ble_eq_true rfl⟩ hl.1 rfl rfl (Nat.le_of_ble_eq_true rfl) ⟨Nat.le_of_ble_eq_true rfl, Nat.le_of_ble_eq_true rfl⟩ dL_law_809) hS (fun H locs hW hS => ?_)
  refine lv_aload_n hx hb dL_law_812 rfl (lv_at hl 2 rfl) ?_
  refine l_arg (k := 1) hx hb hX hbl hbA hS hl (by omega) hL (by decide) dL_law_813 dL_law_814 dL_law_815 dL_law_816 dL_law_817 ?_
  refine x_goi (x_runV cx hW hS (c_X8_lots (l := l) (G := G) h2) cv_L_120 kc_49 rfl (rest := [.int r]) ⟨Nat.le_of_ble_eq_true rfl, Nat.le_of_ble_eq_true rfl⟩ hl.1 rfl rfl (Nat.le_of_ble_eq_true rfl) ⟨Nat.le_of_ble_eq_true rfl, Nat.le_of_ble_eq_true rfl⟩ dL_law_818) hS (fun H locs hW hS => ?_)
  exact lv_icmp_eq (tgt := 1239) hx hb dL_law_821 (by decide) (fun _ => kk _ _ _ _ h3 hW hS hl) (fun q => absurd rfl q)
set_option maxHeartbeats 4000000 in
set_option maxRecDepth 100000 in
theorem lc_feed (cx : Cx G cL_law RL 4 p s m #[Value.ref b] meth c) (hX : va_X b L xs s s.heap) (hbl : b < s.heap.size) (hbA : ¬ g_A G b) (hi : i + 6 ≤ L) (hL : L ≤ 3072) (kk : ∀ (M : Mem) (H : Heap) (locs : List Loc) (ls : Array Slot), RR M → WH G M H → va_S (g_A G) s.heap H locs → lv_has ls 4 (LV G b i) → W p l e room_1 s m #[Value.ref b] below meth c H locs 600000 7302250 Q (F0 m 1239 ls [])) {M : Mem} {H : Heap} {locs : List Loc} {ls : Array Slot} (hR : RR M) (hW : WH G M H) (hS : va_S (g_A G) s.heap H locs) (hl : lv_has ls 4 (LV G b i)) : W p l e room_1 s m #[Value.ref b] below meth c H locs 600000 7302250 Q (F0 m 826 ls []) := by
  obtain ⟨hx, hb, hml, hown, hts, hKK, hSS, hlk⟩ := id cx
  obtain ⟨r, M1, M2, h1, h2, h3⟩ := op_feed hR (xs (i + 1)) (xs (i + 2))
  refine lv_aload_n hx hb dL_law_826 rfl (lv_at hl 1 rfl) ?_
  refine l_arg (k := 1) hx hb hX hbl hbA hS hl (by omega) hL (by decide) dL_law_827 dL_law_828 dL_law_829 dL_law_830 dL_law_831 ?_
  refine l_arg (k := 2) hx hb hX hbl hbA hS hl (by omega) hL (by decide) dL_law_832 dL_law_833 dL_law_834 dL_law_835 dL_law_836 ?_
  refine x_goi (x_runV cx hW hS (c_X7_feed (l := l) (G := G) h1) cv_L_121 kc_0 rfl (rest := []) ⟨Nat.le_of_ble_eq_true rfl, Nat.le_of_ble_eq_true rfl⟩ hl.1 rfl rfl (Nat.le_of_ble_eq_true rfl) ⟨Nat.le_of_ble_eq_true rfl, Nat.le_of_ble_eq_true rfl⟩ dL_law_837) hS (fun H locs hW hS => ?_)
  refine lv_aload_n hx hb dL_law_840 rfl (lv_at hl 2 rfl) ?_
  refine l_arg (k := 1) hx hb hX hbl hbA hS hl (by omega) hL (by decide) dL_law_841 dL_law_842 dL_law_843 dL_law_844 dL_law_845 ?_
  refine l_arg (k := 2) hx hb hX hbl hbA hS hl (by omega) hL (by decide) dL_law_846 dL_law_847 dL_law_848 dL_law_849 dL_law_850 ?_
  refine x_goi (x_runV cx hW hS (c_X8_feed (l := l) (G := G) h2) cv_L_124 kc_49 rfl (rest := [.int r]) ⟨Nat.le_of_ble_eq_true rfl, Nat.le_of_ble_eq_true rfl⟩ hl.1 rfl rfl (Nat.le_of_ble_eq_true rfl) ⟨Nat.le_of_ble_eq_true rfl, Nat.le_of_ble_eq_true rfl⟩ dL_law_851) hS (fun H locs hW hS => ?_)
  exact lv_icmp_eq (tgt := 1239) hx hb dL_law_854 (by decide) (fun _ => kk _ _ _ _ h3 hW hS hl) (fun q => absurd rfl q)
set_option maxHeartbeats 4000000 in
set_option maxRecDepth 100000 in
theorem lc_wipe (cx : Cx G cL_law RL 4 p s m #[Value.ref b] meth c) (hX : va_X b L xs s s.heap) (hbl : b < s.heap.size) (hbA : ¬ g_A G b) (hi : i + 6 ≤ L) (hL : L ≤ 3072) (kk : ∀ (M : Mem) (H : Heap) (locs : List Loc) (ls : Array Slot), RR M → WH G M H → va_S (g_A G) s.heap H locs → lv_has ls 4 (LV G b i) → W p l e room_1 s m #[Value.ref b] below meth c H locs 600000 7302250 Q (F0 m 1239 ls [])) {M : Mem} {H : Heap} {locs : List Loc} {ls : Array Slot} (hR : RR M) (hW : WH G M H) (hS : va_S (g_A G) s.heap H locs) (hl : lv_has ls 4 (LV G b i)) : W p l e room_1 s m #[Value.ref b] below meth c H locs 600000 7302250 Q (F0 m 859 ls []) := by
  obtain ⟨hx, hb, hml, hown, hts, hKK, hSS, hlk⟩ := id cx
  obtain ⟨r, M1, M2, h1, h2, h3⟩ := op_wipe hR
  refine lv_aload_n hx hb dL_law_859 rfl (lv_at hl 1 rfl) ?_
  refine x_goi (x_runV cx hW hS (c_X7_wipe (l := l) (G := G) h1) cv_L_125 kc_0 rfl (rest := []) ⟨Nat.le_of_ble_eq_true rfl, Nat.le_of_ble_eq_true rfl⟩ hl.1 rfl rfl (Nat.le_of_ble_eq_true rfl) ⟨Nat.le_of_ble_eq_true rfl, Nat.le_of_ble_eq_true rfl⟩ dL_law_860) hS (fun H locs hW hS => ?_)
  refine lv_aload_n hx hb dL_law_863 rfl (lv_at hl 2 rfl) ?_
  refine x_goi (x_runV cx hW hS (c_X8_wipe (l := l) (G := G) h2) cv_L_128 kc_49 rfl (rest := [.int r]) ⟨Nat.le_of_ble_eq_true rfl, Nat.le_of_ble_eq_true rfl⟩ hl.1 rfl rfl (Nat.le_of_ble_eq_true rfl) ⟨Nat.le_of_ble_eq_true rfl, Nat.le_of_ble_eq_true rfl⟩ dL_law_864) hS (fun H locs hW hS => ?_)
  exact lv_icmp_eq (tgt := 1239) hx hb dL_law_867 (by decide) (fun _ => kk _ _ _ _ h3 hW hS hl) (fun q => absurd rfl q)
set_option maxHeartbeats 4000000 in
set_option maxRecDepth 100000 in
theorem lc_village (cx : Cx G cL_law RL 4 p s m #[Value.ref b] meth c) (hX : va_X b L xs s s.heap) (hbl : b < s.heap.size) (hbA : ¬ g_A G b) (hi : i + 6 ≤ L) (hL : L ≤ 3072) (kk : ∀ (M : Mem) (H : Heap) (locs : List Loc) (ls : Array Slot), RR M → WH G M H → va_S (g_A G) s.heap H locs → lv_has ls 4 (LV G b i) → W p l e room_1 s m #[Value.ref b] below meth c H locs 600000 7302250 Q (F0 m 1239 ls [])) {M : Mem} {H : Heap} {locs : List Loc} {ls : Array Slot} (hR : RR M) (hW : WH G M H) (hS : va_S (g_A G) s.heap H locs) (hl : lv_has ls 4 (LV G b i)) : W p l e room_1 s m #[Value.ref b] below meth c H locs 600000 7302250 Q (F0 m 872 ls []) := by
  obtain ⟨hx, hb, hml, hown, hts, hKK, hSS, hlk⟩ := id cx
  obtain ⟨r, M1, M2, h1, h2, h3⟩ := op_village hR
  refine lv_aload_n hx hb dL_law_872 rfl (lv_at hl 1 rfl) ?_
  refine x_goi (x_runV cx hW hS (c_X7_village (l := l) (G := G) h1) cv_L_129 kc_0 rfl (rest := []) ⟨Nat.le_of_ble_eq_true rfl, Nat.le_of_ble_eq_true rfl⟩ hl.1 rfl rfl (Nat.le_of_ble_eq_true rfl) ⟨Nat.le_of_ble_eq_true rfl, Nat.le_of_ble_eq_true rfl⟩ dL_law_873) hS (fun H locs hW hS => ?_)
  refine lv_aload_n hx hb dL_law_876 rfl (lv_at hl 2 rfl) ?_
  refine x_goi (x_runV cx hW hS (c_X8_village (l := l) (G := G) h2) cv_L_132 kc_49 rfl (rest := [.int r]) ⟨Nat.le_of_ble_eq_true rfl, Nat.le_of_ble_eq_true rfl⟩ hl.1 rfl rfl (Nat.le_of_ble_eq_true rfl) ⟨Nat.le_of_ble_eq_true rfl, Nat.le_of_ble_eq_true rfl⟩ dL_law_877) hS (fun H locs hW hS => ?_)
  exact lv_icmp_eq (tgt := 1239) hx hb dL_law_880 (by decide) (fun _ => kk _ _ _ _ h3 hW hS hl) (fun q => absurd rfl q)
set_option maxHeartbeats 4000000 in
set_option maxRecDepth 100000 in
theorem lc_sheet (cx : Cx G cL_law RL 4 p s m #[Value.ref b] meth c) (hX : va_X b L xs s s.heap) (hbl : b < s.heap.size) (hbA : ¬ g_A G b) (hi : i + 6 ≤ L) (hL : L ≤ 3072) (kk : ∀ (M : Mem) (H : Heap) (locs : List Loc) (ls : Array Slot), RR M → WH G M H → va_S (g_A G) s.heap H locs → lv_has ls 4 (LV G b i) → W p l e room_1 s m #[Value.ref b] below meth c H locs 600000 7302250 Q (F0 m 1239 ls [])) {M : Mem} {H : Heap} {locs : List Loc} {ls : Array Slot} (hR : RR M) (hW : WH G M H) (hS : va_S (g_A G) s.heap H locs) (hl : lv_has ls 4 (LV G b i)) : W p l e room_1 s m #[Value.ref b] below meth c H locs 600000 7302250 Q (F0 m 885 ls []) := by
  obtain ⟨hx, hb, hml, hown, hts, hKK, hSS, hlk⟩ := id cx
  obtain ⟨r, M1, M2, h1, h2, h3⟩ := op_sheet hR (xs (i + 1)) (xs (i + 2)) (xs (i + 3))
  refine lv_aload_n hx hb dL_law_885 rfl (lv_at hl 1 rfl) ?_
  refine l_arg (k := 1) hx hb hX hbl hbA hS hl (by omega) hL (by decide) dL_law_886 dL_law_887 dL_law_888 dL_law_889 dL_law_890 ?_
  refine l_arg (k := 2) hx hb hX hbl hbA hS hl (by omega) hL (by decide) dL_law_891 dL_law_892 dL_law_893 dL_law_894 dL_law_895 ?_
  refine l_arg (k := 3) hx hb hX hbl hbA hS hl (by omega) hL (by decide) dL_law_896 dL_law_897 dL_law_898 dL_law_899 dL_law_900 ?_
  refine x_goi (x_runV cx hW hS (c_X7_sheet (l := l) (G := G) h1) cv_L_133 kc_0 rfl (rest := []) ⟨Nat.le_of_ble_eq_true rfl, Nat.le_of_ble_eq_true rfl⟩ hl.1 rfl rfl (Nat.le_of_ble_eq_true rfl) ⟨Nat.le_of_ble_eq_true rfl, Nat.le_of_ble_eq_true rfl⟩ dL_law_901) hS (fun H locs hW hS => ?_)
  refine lv_aload_n hx hb dL_law_904 rfl (lv_at hl 2 rfl) ?_
  refine l_arg (k := 1) hx hb hX hbl hbA hS hl (by omega) hL (by decide) dL_law_905 dL_law_906 dL_law_907 dL_law_908 dL_law_909 ?_
  refine l_arg (k := 2) hx hb hX hbl hbA hS hl (by omega) hL (by decide) dL_law_910 dL_law_911 dL_law_912 dL_law_913 dL_law_914 ?_
  refine l_arg (k := 3) hx hb hX hbl hbA hS hl (by omega) hL (by decide) dL_law_915 dL_law_916 dL_law_917 dL_law_918 dL_law_919 ?_
  refine x_goi (x_runV cx hW hS (c_X8_sheet (l := l) (G := G) h2) cv_L_136 kc_49 rfl (rest := [.int r]) ⟨Nat.le_of_ble_eq_true rfl, Nat.le_of_ble_eq_true rfl⟩ hl.1 rfl rfl (Nat.le_of_ble_eq_true rfl) ⟨Nat.le_of_ble_eq_true rfl, Nat.le_of_ble_eq_true rfl⟩ dL_law_920) hS (fun H locs hW hS => ?_)
  exact lv_icmp_eq (tgt := 1239) hx hb dL_law_923 (by decide) (fun _ => kk _ _ _ _ h3 hW hS hl) (fun q => absurd rfl q)
set_option maxHeartbeats 4000000 in
set_option maxRecDepth 100000 in
theorem lc_write (cx : Cx G cL_law RL 4 p s m #[Value.ref b] meth c) (hX : va_X b L xs s s.heap) (hbl : b < s.heap.size) (hbA : ¬ g_A G b) (hi : i + 6 ≤ L) (hL : L ≤ 3072) (kk : ∀ (M : Mem) (H : Heap) (locs : List Loc) (ls : Array Slot), RR M → WH G M H → va_S (g_A G) s.heap H locs → lv_has ls 4 (LV G b i) → W p l e room_1 s m #[Value.ref b] below meth c H locs 600000 7302250 Q (F0 m 1239 ls [])) {M : Mem} {H : Heap} {locs : List Loc} {ls : Array Slot} (hR : RR M) (hW : WH G M H) (hS : va_S (g_A G) s.heap H locs) (hl : lv_has ls 4 (LV G b i)) : W p l e room_1 s m #[Value.ref b] below meth c H locs 600000 7302250 Q (F0 m 928 ls []) := by
  obtain ⟨hx, hb, hml, hown, hts, hKK, hSS, hlk⟩ := id cx
  obtain ⟨r, M1, M2, h1, h2, h3⟩ := op_write hR (xs (i + 1)) (xs (i + 2)) ((((xs (i + 3)).toInt64 <<< ((32 : Int32).toInt64 &&& 63))) ||| ((xs (i + 4)).toInt64 &&& (4294967295 : Int64)))
  refine lv_aload_n hx hb dL_law_928 rfl (lv_at hl 1 rfl) ?_
  refine l_arg (k := 1) hx hb hX hbl hbA hS hl (by omega) hL (by decide) dL_law_929 dL_law_930 dL_law_931 dL_law_932 dL_law_933 ?_
  refine l_arg (k := 2) hx hb hX hbl hbA hS hl (by omega) hL (by decide) dL_law_934 dL_law_935 dL_law_936 dL_law_937 dL_law_938 ?_
  refine l_arg (k := 3) hx hb hX hbl hbA hS hl (by omega) hL (by decide) dL_law_939 dL_law_940 dL_law_941 dL_law_942 dL_law_943 ?_
  refine lv_i2l hx hb dL_law_944 rfl ?_
  refine lv_bipush (v := 32) hx hb dL_law_945 (by decide) ?_
  refine lv_lshl hx hb dL_law_947 rfl ?_
  refine l_arg (k := 4) hx hb hX hbl hbA hS hl (by omega) hL (by decide) dL_law_948 dL_law_949 dL_law_950 dL_law_951 dL_law_952 ?_
  refine lv_i2l hx hb dL_law_953 rfl ?_
  refine lv_ldc2 hx hb hown (hts _ q_cl_L_137) dL_law_954 ?_
  refine lv_land hx hb dL_law_957 ?_
  refine lv_lor hx hb dL_law_958 ?_
  refine x_gol (x_runV cx hW hS (c_X7_write (l := l) (G := G) h1) cv_L_139 kc_0 rfl (rest := []) ⟨Nat.le_of_ble_eq_true rfl, Nat.le_of_ble_eq_true rfl⟩ hl.1 rfl rfl (Nat.le_of_ble_eq_true rfl) ⟨Nat.le_of_ble_eq_true rfl, Nat.le_of_ble_eq_true rfl⟩ dL_law_959) hS (fun H locs hW hS => ?_)
  refine lv_aload_n hx hb dL_law_962 rfl (lv_at hl 2 rfl) ?_
  refine l_arg (k := 1) hx hb hX hbl hbA hS hl (by omega) hL (by decide) dL_law_963 dL_law_964 dL_law_965 dL_law_966 dL_law_967 ?_
  refine l_arg (k := 2) hx hb hX hbl hbA hS hl (by omega) hL (by decide) dL_law_968 dL_law_969 dL_law_970 dL_law_971 dL_law_972 ?_
  refine l_arg (k := 3) hx hb hX hbl hbA hS hl (by omega) hL (by decide) dL_law_973 dL_law_974 dL_law_975 dL_law_976 dL_law_977 ?_
  refine lv_i2l hx hb dL_law_978 rfl ?_
  refine lv_bipush (v := 32) hx hb dL_law_979 (by decide) ?_
  refine lv_lshl hx hb dL_law_981 rfl ?_
  refine l_arg (k := 4) hx hb hX hbl hbA hS hl (by omega) hL (by decide) dL_law_982 dL_law_983 dL_law_984 dL_law_985 dL_law_986 ?_
  refine lv_i2l hx hb dL_law_987 rfl ?_
  refine lv_ldc2 hx hb hown (hts _ q_cl_L_137) dL_law_988 ?_
  refine lv_land hx hb dL_law_991 ?_
  refine lv_lor hx hb dL_law_992 ?_
  refine x_gol (x_runV cx hW hS (c_X8_write (l := l) (G := G) h2) cv_L_143 kc_49 rfl (rest := [.long r]) ⟨Nat.le_of_ble_eq_true rfl, Nat.le_of_ble_eq_true rfl⟩ hl.1 rfl rfl (Nat.le_of_ble_eq_true rfl) ⟨Nat.le_of_ble_eq_true rfl, Nat.le_of_ble_eq_true rfl⟩ dL_law_993) hS (fun H locs hW hS => ?_)
  refine W.lcmp hx hb dL_law_996 ?_
  exact lv_if_eq (tgt := 1239) hx hb dL_law_997 (by decide) (fun _ => kk _ _ _ _ h3 hW hS hl) (fun q => absurd ((lg_0 r r).mpr rfl) q)
set_option maxHeartbeats 4000000 in
set_option maxRecDepth 100000 in
theorem lc_copy (cx : Cx G cL_law RL 4 p s m #[Value.ref b] meth c) (hX : va_X b L xs s s.heap) (hbl : b < s.heap.size) (hbA : ¬ g_A G b) (hi : i + 6 ≤ L) (hL : L ≤ 3072) (kk : ∀ (M : Mem) (H : Heap) (locs : List Loc) (ls : Array Slot), RR M → WH G M H → va_S (g_A G) s.heap H locs → lv_has ls 4 (LV G b i) → W p l e room_1 s m #[Value.ref b] below meth c H locs 600000 7302250 Q (F0 m 1239 ls [])) {M : Mem} {H : Heap} {locs : List Loc} {ls : Array Slot} (hR : RR M) (hW : WH G M H) (hS : va_S (g_A G) s.heap H locs) (hl : lv_has ls 4 (LV G b i)) : W p l e room_1 s m #[Value.ref b] below meth c H locs 600000 7302250 Q (F0 m 1002 ls []) := by
  obtain ⟨hx, hb, hml, hown, hts, hKK, hSS, hlk⟩ := id cx
  obtain ⟨r, M1, M2, h1, h2, h3⟩ := op_copy hR (xs (i + 1)) (xs (i + 2)) (xs (i + 3)) (xs (i + 4)) (xs (i + 5))
  refine lv_aload_n hx hb dL_law_1002 rfl (lv_at hl 1 rfl) ?_
  refine l_arg (k := 1) hx hb hX hbl hbA hS hl (by omega) hL (by decide) dL_law_1003 dL_law_1004 dL_law_1005 dL_law_1006 dL_law_1007 ?_
  refine l_arg (k := 2) hx hb hX hbl hbA hS hl (by omega) hL (by decide) dL_law_1008 dL_law_1009 dL_law_1010 dL_law_1011 dL_law_1012 ?_
  refine l_arg (k := 3) hx hb hX hbl hbA hS hl (by omega) hL (by decide) dL_law_1013 dL_law_1014 dL_law_1015 dL_law_1016 dL_law_1017 ?_
  refine l_arg (k := 4) hx hb hX hbl hbA hS hl (by omega) hL (by decide) dL_law_1018 dL_law_1019 dL_law_1020 dL_law_1021 dL_law_1022 ?_
  refine l_arg (k := 5) hx hb hX hbl hbA hS hl (by omega) hL (by decide) dL_law_1023 dL_law_1024 dL_law_1025 dL_law_1026 dL_law_1027 ?_
  refine x_goi (x_runV cx hW hS (c_X7_copy (l := l) (G := G) h1) cv_L_144 kc_0 rfl (rest := []) ⟨Nat.le_of_ble_eq_true rfl, Nat.le_of_ble_eq_true rfl⟩ hl.1 rfl rfl (Nat.le_of_ble_eq_true rfl) ⟨Nat.le_of_ble_eq_true rfl, Nat.le_of_ble_eq_true rfl⟩ dL_law_1028) hS (fun H locs hW hS => ?_)
  refine lv_aload_n hx hb dL_law_1031 rfl (lv_at hl 2 rfl) ?_
  refine l_arg (k := 1) hx hb hX hbl hbA hS hl (by omega) hL (by decide) dL_law_1032 dL_law_1033 dL_law_1034 dL_law_1035 dL_law_1036 ?_
  refine l_arg (k := 2) hx hb hX hbl hbA hS hl (by omega) hL (by decide) dL_law_1037 dL_law_1038 dL_law_1039 dL_law_1040 dL_law_1041 ?_
  refine l_arg (k := 3) hx hb hX hbl hbA hS hl (by omega) hL (by decide) dL_law_1042 dL_law_1043 dL_law_1044 dL_law_1045 dL_law_1046 ?_
  refine l_arg (k := 4) hx hb hX hbl hbA hS hl (by omega) hL (by decide) dL_law_1047 dL_law_1048 dL_law_1049 dL_law_1050 dL_law_1051 ?_
  refine l_arg (k := 5) hx hb hX hbl hbA hS hl (by omega) hL (by decide) dL_law_1052 dL_law_1053 dL_law_1054 dL_law_1055 dL_law_1056 ?_
  refine x_goi (x_runV cx hW hS (c_X8_copy (l := l) (G := G) h2) cv_L_148 kc_49 rfl (rest := [.int r]) ⟨Nat.le_of_ble_eq_true rfl, Nat.le_of_ble_eq_true rfl⟩ hl.1 rfl rfl (Nat.le_of_ble_eq_true rfl) ⟨Nat.le_of_ble_eq_true rfl, Nat.le_of_ble_eq_true rfl⟩ dL_law_1057) hS (fun H locs hW hS => ?_)
  exact lv_icmp_eq (tgt := 1239) hx hb dL_law_1060 (by decide) (fun _ => kk _ _ _ _ h3 hW hS hl) (fun q => absurd rfl q)
set_option maxHeartbeats 4000000 in
set_option maxRecDepth 100000 in
theorem lc_lays (cx : Cx G cL_law RL 4 p s m #[Value.ref b] meth c) (hX : va_X b L xs s s.heap) (hbl : b < s.heap.size) (hbA : ¬ g_A G b) (hi : i + 6 ≤ L) (hL : L ≤ 3072) (kk : ∀ (M : Mem) (H : Heap) (locs : List Loc) (ls : Array Slot), RR M → WH G M H → va_S (g_A G) s.heap H locs → lv_has ls 4 (LV G b i) → W p l e room_1 s m #[Value.ref b] below meth c H locs 600000 7302250 Q (F0 m 1239 ls [])) {M : Mem} {H : Heap} {locs : List Loc} {ls : Array Slot} (hR : RR M) (hW : WH G M H) (hS : va_S (g_A G) s.heap H locs) (hl : lv_has ls 4 (LV G b i)) : W p l e room_1 s m #[Value.ref b] below meth c H locs 600000 7302250 Q (F0 m 1065 ls []) := by
  obtain ⟨hx, hb, hml, hown, hts, hKK, hSS, hlk⟩ := id cx
  obtain ⟨r, M1, M2, h1, h2, h3⟩ := op_lays hR (xs (i + 1))
  refine lv_aload_n hx hb dL_law_1065 rfl (lv_at hl 1 rfl) ?_
  refine l_arg (k := 1) hx hb hX hbl hbA hS hl (by omega) hL (by decide) dL_law_1066 dL_law_1067 dL_law_1068 dL_law_1069 dL_law_1070 ?_
  refine x_goi (x_runV cx hW hS (c_X7_lays (l := l) (G := G) h1) cv_L_149 kc_0 rfl (rest := []) ⟨Nat.le_of_ble_eq_true rfl, Nat.le_of_ble_eq_true rfl⟩ hl.1 rfl rfl (Nat.le_of_ble_eq_true rfl) ⟨Nat.le_of_ble_eq_true rfl, Nat.le_of_ble_eq_true rfl⟩ dL_law_1071) hS (fun H locs hW hS => ?_)
  refine lv_aload_n hx hb dL_law_1074 rfl (lv_at hl 2 rfl) ?_
  refine l_arg (k := 1) hx hb hX hbl hbA hS hl (by omega) hL (by decide) dL_law_1075 dL_law_1076 dL_law_1077 dL_law_1078 dL_law_1079 ?_
  refine x_goi (x_runV cx hW hS (c_X8_lays (l := l) (G := G) h2) cv_L_152 kc_49 rfl (rest := [.int r]) ⟨Nat.le_of_ble_eq_true rfl, Nat.le_of_ble_eq_true rfl⟩ hl.1 rfl rfl (Nat.le_of_ble_eq_true rfl) ⟨Nat.le_of_ble_eq_true rfl, Nat.le_of_ble_eq_true rfl⟩ dL_law_1080) hS (fun H locs hW hS => ?_)
  exact lv_icmp_eq (tgt := 1239) hx hb dL_law_1083 (by decide) (fun _ => kk _ _ _ _ h3 hW hS hl) (fun q => absurd rfl q)
set_option maxHeartbeats 4000000 in
set_option maxRecDepth 100000 in
theorem lc_book (cx : Cx G cL_law RL 4 p s m #[Value.ref b] meth c) (hX : va_X b L xs s s.heap) (hbl : b < s.heap.size) (hbA : ¬ g_A G b) (hi : i + 6 ≤ L) (hL : L ≤ 3072) (kk : ∀ (M : Mem) (H : Heap) (locs : List Loc) (ls : Array Slot), RR M → WH G M H → va_S (g_A G) s.heap H locs → lv_has ls 4 (LV G b i) → W p l e room_1 s m #[Value.ref b] below meth c H locs 600000 7302250 Q (F0 m 1239 ls [])) {M : Mem} {H : Heap} {locs : List Loc} {ls : Array Slot} (hR : RR M) (hW : WH G M H) (hS : va_S (g_A G) s.heap H locs) (hl : lv_has ls 4 (LV G b i)) : W p l e room_1 s m #[Value.ref b] below meth c H locs 600000 7302250 Q (F0 m 1088 ls []) := by
  obtain ⟨hx, hb, hml, hown, hts, hKK, hSS, hlk⟩ := id cx
  obtain ⟨r, M1, M2, h1, h2, h3⟩ := op_book hR (xs (i + 1)) (xs (i + 2))
  refine lv_aload_n hx hb dL_law_1088 rfl (lv_at hl 1 rfl) ?_
  refine l_arg (k := 1) hx hb hX hbl hbA hS hl (by omega) hL (by decide) dL_law_1089 dL_law_1090 dL_law_1091 dL_law_1092 dL_law_1093 ?_
  refine l_arg (k := 2) hx hb hX hbl hbA hS hl (by omega) hL (by decide) dL_law_1094 dL_law_1095 dL_law_1096 dL_law_1097 dL_law_1098 ?_
  refine x_goi (x_runV cx hW hS (c_X7_book (l := l) (G := G) h1) cv_L_153 kc_0 rfl (rest := []) ⟨Nat.le_of_ble_eq_true rfl, Nat.le_of_ble_eq_true rfl⟩ hl.1 rfl rfl (Nat.le_of_ble_eq_true rfl) ⟨Nat.le_of_ble_eq_true rfl, Nat.le_of_ble_eq_true rfl⟩ dL_law_1099) hS (fun H locs hW hS => ?_)
  refine lv_aload_n hx hb dL_law_1102 rfl (lv_at hl 2 rfl) ?_
  refine l_arg (k := 1) hx hb hX hbl hbA hS hl (by omega) hL (by decide) dL_law_1103 dL_law_1104 dL_law_1105 dL_law_1106 dL_law_1107 ?_
  refine l_arg (k := 2) hx hb hX hbl hbA hS hl (by omega) hL (by decide) dL_law_1108 dL_law_1109 dL_law_1110 dL_law_1111 dL_law_1112 ?_
  refine x_goi (x_runV cx hW hS (c_X8_book (l := l) (G := G) h2) cv_L_156 kc_49 rfl (rest := [.int r]) ⟨Nat.le_of_ble_eq_true rfl, Nat.le_of_ble_eq_true rfl⟩ hl.1 rfl rfl (Nat.le_of_ble_eq_true rfl) ⟨Nat.le_of_ble_eq_true rfl, Nat.le_of_ble_eq_true rfl⟩ dL_law_1113) hS (fun H locs hW hS => ?_)
  exact lv_icmp_eq (tgt := 1239) hx hb dL_law_1116 (by decide) (fun _ => kk _ _ _ _ h3 hW hS hl) (fun q => absurd rfl q)
set_option maxHeartbeats 4000000 in
set_option maxRecDepth 100000 in
theorem lc_read (cx : Cx G cL_law RL 4 p s m #[Value.ref b] meth c) (hX : va_X b L xs s s.heap) (hbl : b < s.heap.size) (hbA : ¬ g_A G b) (hi : i + 6 ≤ L) (hL : L ≤ 3072) (kk : ∀ (M : Mem) (H : Heap) (locs : List Loc) (ls : Array Slot), RR M → WH G M H → va_S (g_A G) s.heap H locs → lv_has ls 4 (LV G b i) → W p l e room_1 s m #[Value.ref b] below meth c H locs 600000 7302250 Q (F0 m 1239 ls [])) {M : Mem} {H : Heap} {locs : List Loc} {ls : Array Slot} (hR : RR M) (hW : WH G M H) (hS : va_S (g_A G) s.heap H locs) (hl : lv_has ls 4 (LV G b i)) : W p l e room_1 s m #[Value.ref b] below meth c H locs 600000 7302250 Q (F0 m 1121 ls []) := by
  obtain ⟨hx, hb, hml, hown, hts, hKK, hSS, hlk⟩ := id cx
  obtain ⟨r, M1, M2, h1, h2, h3⟩ := op_read hR (xs (i + 1)) (xs (i + 2))
  refine lv_aload_n hx hb dL_law_1121 rfl (lv_at hl 1 rfl) ?_
  refine l_arg (k := 1) hx hb hX hbl hbA hS hl (by omega) hL (by decide) dL_law_1122 dL_law_1123 dL_law_1124 dL_law_1125 dL_law_1126 ?_
  refine l_arg (k := 2) hx hb hX hbl hbA hS hl (by omega) hL (by decide) dL_law_1127 dL_law_1128 dL_law_1129 dL_law_1130 dL_law_1131 ?_
  refine x_goi (x_runV cx hW hS (c_X7_read (l := l) (G := G) h1) cv_L_157 kc_0 rfl (rest := []) ⟨Nat.le_of_ble_eq_true rfl, Nat.le_of_ble_eq_true rfl⟩ hl.1 rfl rfl (Nat.le_of_ble_eq_true rfl) ⟨Nat.le_of_ble_eq_true rfl, Nat.le_of_ble_eq_true rfl⟩ dL_law_1132) hS (fun H locs hW hS => ?_)
  refine lv_aload_n hx hb dL_law_1135 rfl (lv_at hl 2 rfl) ?_
  refine l_arg (k := 1) hx hb hX hbl hbA hS hl (by omega) hL (by decide) dL_law_1136 dL_law_1137 dL_law_1138 dL_law_1139 dL_law_1140 ?_
  refine l_arg (k := 2) hx hb hX hbl hbA hS hl (by omega) hL (by decide) dL_law_1141 dL_law_1142 dL_law_1143 dL_law_1144 dL_law_1145 ?_
  refine x_goi (x_runV cx hW hS (c_X8_read (l := l) (G := G) h2) cv_L_160 kc_49 rfl (rest := [.int r]) ⟨Nat.le_of_ble_eq_true rfl, Nat.le_of_ble_eq_true rfl⟩ hl.1 rfl rfl (Nat.le_of_ble_eq_true rfl) ⟨Nat.le_of_ble_eq_true rfl, Nat.le_of_ble_eq_true rfl⟩ dL_law_1146) hS (fun H locs hW hS => ?_)
  exact lv_icmp_eq (tgt := 1239) hx hb dL_law_1149 (by decide) (fun _ => kk _ _ _ _ h3 hW hS hl) (fun q => absurd rfl q)
set_option maxHeartbeats 4000000 in
set_option maxRecDepth 100000 in
theorem lc_image (cx : Cx G cL_law RL 4 p s m #[Value.ref b] meth c) (hX : va_X b L xs s s.heap) (hbl : b < s.heap.size) (hbA : ¬ g_A G b) (hi : i + 6 ≤ L) (hL : L ≤ 3072) (kk : ∀ (M : Mem) (H : Heap) (locs : List Loc) (ls : Array Slot), RR M → WH G M H → va_S (g_A G) s.heap H locs → lv_has ls 4 (LV G b i) → W p l e room_1 s m #[Value.ref b] below meth c H locs 600000 7302250 Q (F0 m 1239 ls [])) {M : Mem} {H : Heap} {locs : List Loc} {ls : Array Slot} (hR : RR M) (hW : WH G M H) (hS : va_S (g_A G) s.heap H locs) (hl : lv_has ls 4 (LV G b i)) : W p l e room_1 s m #[Value.ref b] below meth c H locs 600000 7302250 Q (F0 m 1154 ls []) := by
  obtain ⟨hx, hb, hml, hown, hts, hKK, hSS, hlk⟩ := id cx
  obtain ⟨r, M1, M2, h1, h2, h3⟩ := op_image hR
  refine lv_aload_n hx hb dL_law_1154 rfl (lv_at hl 1 rfl) ?_
  refine x_goi (x_runV cx hW hS (c_X7_image (l := l) (G := G) h1) cv_L_161 kc_0 rfl (rest := []) ⟨Nat.le_of_ble_eq_true rfl, Nat.le_of_ble_eq_true rfl⟩ hl.1 rfl rfl (Nat.le_of_ble_eq_true rfl) ⟨Nat.le_of_ble_eq_true rfl, Nat.le_of_ble_eq_true rfl⟩ dL_law_1155) hS (fun H locs hW hS => ?_)
  refine lv_aload_n hx hb dL_law_1158 rfl (lv_at hl 2 rfl) ?_
  refine x_goi (x_runV cx hW hS (c_X8_image (l := l) (G := G) h2) cv_L_164 kc_49 rfl (rest := [.int r]) ⟨Nat.le_of_ble_eq_true rfl, Nat.le_of_ble_eq_true rfl⟩ hl.1 rfl rfl (Nat.le_of_ble_eq_true rfl) ⟨Nat.le_of_ble_eq_true rfl, Nat.le_of_ble_eq_true rfl⟩ dL_law_1159) hS (fun H locs hW hS => ?_)
  exact lv_icmp_eq (tgt := 1239) hx hb dL_law_1162 (by decide) (fun _ => kk _ _ _ _ h3 hW hS hl) (fun q => absurd rfl q)
set_option maxHeartbeats 4000000 in
set_option maxRecDepth 100000 in
theorem lc_undo (cx : Cx G cL_law RL 4 p s m #[Value.ref b] meth c) (hX : va_X b L xs s s.heap) (hbl : b < s.heap.size) (hbA : ¬ g_A G b) (hi : i + 6 ≤ L) (hL : L ≤ 3072) (kk : ∀ (M : Mem) (H : Heap) (locs : List Loc) (ls : Array Slot), RR M → WH G M H → va_S (g_A G) s.heap H locs → lv_has ls 4 (LV G b i) → W p l e room_1 s m #[Value.ref b] below meth c H locs 600000 7302250 Q (F0 m 1239 ls [])) {M : Mem} {H : Heap} {locs : List Loc} {ls : Array Slot} (hR : RR M) (hW : WH G M H) (hS : va_S (g_A G) s.heap H locs) (hl : lv_has ls 4 (LV G b i)) : W p l e room_1 s m #[Value.ref b] below meth c H locs 600000 7302250 Q (F0 m 1167 ls []) := by
  obtain ⟨hx, hb, hml, hown, hts, hKK, hSS, hlk⟩ := id cx
  obtain ⟨r, M1, M2, h1, h2, h3⟩ := op_undo hR
  refine lv_aload_n hx hb dL_law_1167 rfl (lv_at hl 1 rfl) ?_
  refine x_goi (x_runV cx hW hS (c_X7_undo (l := l) (G := G) h1) cv_L_165 kc_0 rfl (rest := []) ⟨Nat.le_of_ble_eq_true rfl, Nat.le_of_ble_eq_true rfl⟩ hl.1 rfl rfl (Nat.le_of_ble_eq_true rfl) ⟨Nat.le_of_ble_eq_true rfl, Nat.le_of_ble_eq_true rfl⟩ dL_law_1168) hS (fun H locs hW hS => ?_)
  refine lv_aload_n hx hb dL_law_1171 rfl (lv_at hl 2 rfl) ?_
  refine x_goi (x_runV cx hW hS (c_X8_undo (l := l) (G := G) h2) cv_L_168 kc_49 rfl (rest := [.int r]) ⟨Nat.le_of_ble_eq_true rfl, Nat.le_of_ble_eq_true rfl⟩ hl.1 rfl rfl (Nat.le_of_ble_eq_true rfl) ⟨Nat.le_of_ble_eq_true rfl, Nat.le_of_ble_eq_true rfl⟩ dL_law_1172) hS (fun H locs hW hS => ?_)
  exact lv_icmp_eq (tgt := 1239) hx hb dL_law_1175 (by decide) (fun _ => kk _ _ _ _ h3 hW hS hl) (fun q => absurd rfl q)
set_option maxHeartbeats 4000000 in
set_option maxRecDepth 100000 in
theorem lc_tear (cx : Cx G cL_law RL 4 p s m #[Value.ref b] meth c) (hX : va_X b L xs s s.heap) (hbl : b < s.heap.size) (hbA : ¬ g_A G b) (hi : i + 6 ≤ L) (hL : L ≤ 3072) (kk : ∀ (M : Mem) (H : Heap) (locs : List Loc) (ls : Array Slot), RR M → WH G M H → va_S (g_A G) s.heap H locs → lv_has ls 4 (LV G b i) → W p l e room_1 s m #[Value.ref b] below meth c H locs 600000 7302250 Q (F0 m 1239 ls [])) {M : Mem} {H : Heap} {locs : List Loc} {ls : Array Slot} (hR : RR M) (hW : WH G M H) (hS : va_S (g_A G) s.heap H locs) (hl : lv_has ls 4 (LV G b i)) : W p l e room_1 s m #[Value.ref b] below meth c H locs 600000 7302250 Q (F0 m 1180 ls []) := by
  obtain ⟨hx, hb, hml, hown, hts, hKK, hSS, hlk⟩ := id cx
  obtain ⟨r, M1, M2, h1, h2, h3⟩ := op_tear hR
  refine lv_aload_n hx hb dL_law_1180 rfl (lv_at hl 1 rfl) ?_
  refine x_goi (x_runV cx hW hS (c_X7_tear (l := l) (G := G) h1) cv_L_169 kc_0 rfl (rest := []) ⟨Nat.le_of_ble_eq_true rfl, Nat.le_of_ble_eq_true rfl⟩ hl.1 rfl rfl (Nat.le_of_ble_eq_true rfl) ⟨Nat.le_of_ble_eq_true rfl, Nat.le_of_ble_eq_true rfl⟩ dL_law_1181) hS (fun H locs hW hS => ?_)
  refine lv_aload_n hx hb dL_law_1184 rfl (lv_at hl 2 rfl) ?_
  refine x_goi (x_runV cx hW hS (c_X8_tear (l := l) (G := G) h2) cv_L_172 kc_49 rfl (rest := [.int r]) ⟨Nat.le_of_ble_eq_true rfl, Nat.le_of_ble_eq_true rfl⟩ hl.1 rfl rfl (Nat.le_of_ble_eq_true rfl) ⟨Nat.le_of_ble_eq_true rfl, Nat.le_of_ble_eq_true rfl⟩ dL_law_1185) hS (fun H locs hW hS => ?_)
  exact lv_icmp_eq (tgt := 1239) hx hb dL_law_1188 (by decide) (fun _ => kk _ _ _ _ h3 hW hS hl) (fun q => absurd rfl q)
set_option maxHeartbeats 4000000 in
set_option maxRecDepth 100000 in
theorem lc_count (cx : Cx G cL_law RL 4 p s m #[Value.ref b] meth c) (hX : va_X b L xs s s.heap) (hbl : b < s.heap.size) (hbA : ¬ g_A G b) (hi : i + 6 ≤ L) (hL : L ≤ 3072) (kk : ∀ (M : Mem) (H : Heap) (locs : List Loc) (ls : Array Slot), RR M → WH G M H → va_S (g_A G) s.heap H locs → lv_has ls 4 (LV G b i) → W p l e room_1 s m #[Value.ref b] below meth c H locs 600000 7302250 Q (F0 m 1239 ls [])) {M : Mem} {H : Heap} {locs : List Loc} {ls : Array Slot} (hR : RR M) (hW : WH G M H) (hS : va_S (g_A G) s.heap H locs) (hl : lv_has ls 4 (LV G b i)) : W p l e room_1 s m #[Value.ref b] below meth c H locs 600000 7302250 Q (F0 m 1193 ls []) := by
  obtain ⟨hx, hb, hml, hown, hts, hKK, hSS, hlk⟩ := id cx
  obtain ⟨r, M1, M2, h1, h2, h3⟩ := op_count hR (xs (i + 1))
  refine lv_aload_n hx hb dL_law_1193 rfl (lv_at hl 1 rfl) ?_
  refine l_arg (k := 1) hx hb hX hbl hbA hS hl (by omega) hL (by decide) dL_law_1194 dL_law_1195 dL_law_1196 dL_law_1197 dL_law_1198 ?_
  refine x_goi (x_runV cx hW hS (c_X7_count (l := l) (G := G) h1) cv_L_173 kc_0 rfl (rest := []) ⟨Nat.le_of_ble_eq_true rfl, Nat.le_of_ble_eq_true rfl⟩ hl.1 rfl rfl (Nat.le_of_ble_eq_true rfl) ⟨Nat.le_of_ble_eq_true rfl, Nat.le_of_ble_eq_true rfl⟩ dL_law_1199) hS (fun H locs hW hS => ?_)
  refine lv_aload_n hx hb dL_law_1202 rfl (lv_at hl 2 rfl) ?_
  refine l_arg (k := 1) hx hb hX hbl hbA hS hl (by omega) hL (by decide) dL_law_1203 dL_law_1204 dL_law_1205 dL_law_1206 dL_law_1207 ?_
  refine x_goi (x_runV cx hW hS (c_X8_count (l := l) (G := G) h2) cv_L_176 kc_49 rfl (rest := [.int r]) ⟨Nat.le_of_ble_eq_true rfl, Nat.le_of_ble_eq_true rfl⟩ hl.1 rfl rfl (Nat.le_of_ble_eq_true rfl) ⟨Nat.le_of_ble_eq_true rfl, Nat.le_of_ble_eq_true rfl⟩ dL_law_1208) hS (fun H locs hW hS => ?_)
  exact lv_icmp_eq (tgt := 1239) hx hb dL_law_1211 (by decide) (fun _ => kk _ _ _ _ h3 hW hS hl) (fun q => absurd rfl q)
set_option maxHeartbeats 4000000 in
set_option maxRecDepth 100000 in
theorem lc_status (cx : Cx G cL_law RL 4 p s m #[Value.ref b] meth c) (hX : va_X b L xs s s.heap) (hbl : b < s.heap.size) (hbA : ¬ g_A G b) (hi : i + 6 ≤ L) (hL : L ≤ 3072) (kk : ∀ (M : Mem) (H : Heap) (locs : List Loc) (ls : Array Slot), RR M → WH G M H → va_S (g_A G) s.heap H locs → lv_has ls 4 (LV G b i) → W p l e room_1 s m #[Value.ref b] below meth c H locs 600000 7302250 Q (F0 m 1239 ls [])) {M : Mem} {H : Heap} {locs : List Loc} {ls : Array Slot} (hR : RR M) (hW : WH G M H) (hS : va_S (g_A G) s.heap H locs) (hl : lv_has ls 4 (LV G b i)) : W p l e room_1 s m #[Value.ref b] below meth c H locs 600000 7302250 Q (F0 m 1216 ls []) := by
  obtain ⟨hx, hb, hml, hown, hts, hKK, hSS, hlk⟩ := id cx
  obtain ⟨r, M1, M2, h1, h2, h3⟩ := op_status hR (xs (i + 1))
  refine lv_aload_n hx hb dL_law_1216 rfl (lv_at hl 1 rfl) ?_
  refine l_arg (k := 1) hx hb hX hbl hbA hS hl (by omega) hL (by decide) dL_law_1217 dL_law_1218 dL_law_1219 dL_law_1220 dL_law_1221 ?_
  refine x_goi (x_runV cx hW hS (c_X7_status (l := l) (G := G) h1) cv_L_177 kc_0 rfl (rest := []) ⟨Nat.le_of_ble_eq_true rfl, Nat.le_of_ble_eq_true rfl⟩ hl.1 rfl rfl (Nat.le_of_ble_eq_true rfl) ⟨Nat.le_of_ble_eq_true rfl, Nat.le_of_ble_eq_true rfl⟩ dL_law_1222) hS (fun H locs hW hS => ?_)
  refine lv_aload_n hx hb dL_law_1225 rfl (lv_at hl 2 rfl) ?_
  refine l_arg (k := 1) hx hb hX hbl hbA hS hl (by omega) hL (by decide) dL_law_1226 dL_law_1227 dL_law_1228 dL_law_1229 dL_law_1230 ?_
  refine x_goi (x_runV cx hW hS (c_X8_status (l := l) (G := G) h2) cv_L_180 kc_49 rfl (rest := [.int r]) ⟨Nat.le_of_ble_eq_true rfl, Nat.le_of_ble_eq_true rfl⟩ hl.1 rfl rfl (Nat.le_of_ble_eq_true rfl) ⟨Nat.le_of_ble_eq_true rfl, Nat.le_of_ble_eq_true rfl⟩ dL_law_1231) hS (fun H locs hW hS => ?_)
  exact lv_icmp_eq (tgt := 1239) hx hb dL_law_1234 (by decide) (fun _ => kk _ _ _ _ h3 hW hS hl) (fun q => absurd rfl q)
set_option maxHeartbeats 4000000 in
set_option maxRecDepth 100000 in
theorem lc_all (cx : Cx G cL_law RL 4 p s m #[Value.ref b] meth c) (hX : va_X b L xs s s.heap) (hbl : b < s.heap.size) (hbA : ¬ g_A G b) (hi : i + 6 ≤ L) (hL : L ≤ 3072) (kk : ∀ (M : Mem) (H : Heap) (locs : List Loc) (ls : Array Slot), RR M → WH G M H → va_S (g_A G) s.heap H locs → lv_has ls 4 (LV G b i) → W p l e room_1 s m #[Value.ref b] below meth c H locs 600000 7302250 Q (F0 m 1239 ls [])) {M : Mem} {H : Heap} {locs : List Loc} {ls : Array Slot} (hR : RR M) (hW : WH G M H) (hS : va_S (g_A G) s.heap H locs) (hl : lv_has ls 4 (LV G b i)) (x : Int32) : W p l e room_1 s m #[Value.ref b] below meth c H locs 600000 7302250 Q (F0 m 33 ls [.int x]) := by
  obtain ⟨hx, hb, hml, hown, hts, hKK, hSS, hlk⟩ := id cx
  by_cases h : 0 ≤ x.toInt ∧ x.toInt < (40 : Nat)
  · obtain ⟨j, hj, e⟩ := t_of h.1 h.2
    subst e
    match j, hj with
    | 0, _ => exact lv_tableIn (off := 175) (tgt := 208) hx hb dL_law_33 (by decide) (by decide) (by decide +kernel) (by decide) (lc_person cx hX hbl hbA hi hL kk hR hW hS hl)
    | 1, _ => exact lv_tableIn (off := 198) (tgt := 231) hx hb dL_law_33 (by decide) (by decide) (by decide +kernel) (by decide) (lc_of cx hX hbl hbA hi hL kk hR hW hS hl)
    | 2, _ => exact lv_tableIn (off := 231) (tgt := 264) hx hb dL_law_33 (by decide) (by decide) (by decide +kernel) (by decide) (lc_says cx hX hbl hbA hi hL kk hR hW hS hl)
    | 3, _ => exact lv_tableIn (off := 254) (tgt := 287) hx hb dL_law_33 (by decide) (by decide) (by decide +kernel) (by decide) (lc_set cx hX hbl hbA hi hL kk hR hW hS hl)
    | 4, _ => exact lv_tableIn (off := 297) (tgt := 330) hx hb dL_law_33 (by decide) (by decide) (by decide +kernel) (by decide) (lc_turn cx hX hbl hbA hi hL kk hR hW hS hl)
    | 5, _ => exact lv_tableIn (off := 330) (tgt := 363) hx hb dL_law_33 (by decide) (by decide) (by decide +kernel) (by decide) (lc_as cx hX hbl hbA hi hL kk hR hW hS hl)
    | 6, _ => exact lv_tableIn (off := 363) (tgt := 396) hx hb dL_law_33 (by decide) (by decide) (by decide +kernel) (by decide) (lc_swap cx hX hbl hbA hi hL kk hR hW hS hl)
    | 7, _ => exact lv_tableIn (off := 396) (tgt := 429) hx hb dL_law_33 (by decide) (by decide) (by decide +kernel) (by decide) (lc_home cx hX hbl hbA hi hL kk hR hW hS hl)
    | 8, _ => exact lv_tableIn (off := 409) (tgt := 442) hx hb dL_law_33 (by decide) (by decide) (by decide +kernel) (by decide) (lc_draw cx hX hbl hbA hi hL kk hR hW hS hl)
    | 9, _ => exact lv_tableIn (off := 422) (tgt := 455) hx hb dL_law_33 (by decide) (by decide) (by decide +kernel) (by decide) (lc_seed cx hX hbl hbA hi hL kk hR hW hS hl)
    | 10, _ => exact lv_tableIn (off := 445) (tgt := 478) hx hb dL_law_33 (by decide) (by decide) (by decide +kernel) (by decide) (lc_fridays cx hX hbl hbA hi hL kk hR hW hS hl)
    | 11, _ => exact lv_tableIn (off := 468) (tgt := 501) hx hb dL_law_33 (by decide) (by decide) (by decide +kernel) (by decide) (lc_season cx hX hbl hbA hi hL kk hR hW hS hl)
    | 12, _ => exact lv_tableIn (off := 491) (tgt := 524) hx hb dL_law_33 (by decide) (by decide) (by decide +kernel) (by decide) (lc_now cx hX hbl hbA hi hL kk hR hW hS hl)
    | 13, _ => exact lv_tableIn (off := 514) (tgt := 547) hx hb dL_law_33 (by decide) (by decide) (by decide +kernel) (by decide) (lc_who cx hX hbl hbA hi hL kk hR hW hS hl)
    | 14, _ => exact lv_tableIn (off := 537) (tgt := 570) hx hb dL_law_33 (by decide) (by decide) (by decide +kernel) (by decide) (lc_ring cx hX hbl hbA hi hL kk hR hW hS hl)
    | 15, _ => exact lv_tableIn (off := 560) (tgt := 593) hx hb dL_law_33 (by decide) (by decide) (by decide +kernel) (by decide) (lc_rings cx hX hbl hbA hi hL kk hR hW hS hl)
    | 16, _ => exact lv_tableIn (off := 573) (tgt := 606) hx hb dL_law_33 (by decide) (by decide) (by decide +kernel) (by decide) (lc_pairs cx hX hbl hbA hi hL kk hR hW hS hl)
    | 17, _ => exact lv_tableIn (off := 586) (tgt := 619) hx hb dL_law_33 (by decide) (by decide) (by decide +kernel) (by decide) (lc_on cx hX hbl hbA hi hL kk hR hW hS hl)
    | 18, _ => exact lv_tableIn (off := 629) (tgt := 662) hx hb dL_law_33 (by decide) (by decide) (by decide +kernel) (by decide) (lc_itself cx hX hbl hbA hi hL kk hR hW hS hl)
    | 19, _ => exact lv_tableIn (off := 652) (tgt := 685) hx hb dL_law_33 (by decide) (by decide) (by decide +kernel) (by decide) (lc_most cx hX hbl hbA hi hL kk hR hW hS hl)
    | 20, _ => exact lv_tableIn (off := 665) (tgt := 698) hx hb dL_law_33 (by decide) (by decide) (by decide +kernel) (by decide) (lc_slip cx hX hbl hbA hi hL kk hR hW hS hl)
    | 21, _ => exact lv_tableIn (off := 688) (tgt := 721) hx hb dL_law_33 (by decide) (by decide) (by decide +kernel) (by decide) (lc_better cx hX hbl hbA hi hL kk hR hW hS hl)
    | 22, _ => exact lv_tableIn (off := 701) (tgt := 734) hx hb dL_law_33 (by decide) (by decide) (by decide +kernel) (by decide) (lc_bestAs cx hX hbl hbA hi hL kk hR hW hS hl)
    | 23, _ => exact lv_tableIn (off := 724) (tgt := 757) hx hb dL_law_33 (by decide) (by decide) (by decide +kernel) (by decide) (lc_kind cx hX hbl hbA hi hL kk hR hW hS hl)
    | 24, _ => exact lv_tableIn (off := 747) (tgt := 780) hx hb dL_law_33 (by decide) (by decide) (by decide +kernel) (by decide) (lc_odds cx hX hbl hbA hi hL kk hR hW hS hl)
    | 25, _ => exact lv_tableIn (off := 770) (tgt := 803) hx hb dL_law_33 (by decide) (by decide) (by decide +kernel) (by decide) (lc_lots cx hX hbl hbA hi hL kk hR hW hS hl)
    | 26, _ => exact lv_tableIn (off := 793) (tgt := 826) hx hb dL_law_33 (by decide) (by decide) (by decide +kernel) (by decide) (lc_feed cx hX hbl hbA hi hL kk hR hW hS hl)
    | 27, _ => exact lv_tableIn (off := 826) (tgt := 859) hx hb dL_law_33 (by decide) (by decide) (by decide +kernel) (by decide) (lc_wipe cx hX hbl hbA hi hL kk hR hW hS hl)
    | 28, _ => exact lv_tableIn (off := 839) (tgt := 872) hx hb dL_law_33 (by decide) (by decide) (by decide +kernel) (by decide) (lc_village cx hX hbl hbA hi hL kk hR hW hS hl)
    | 29, _ => exact lv_tableIn (off := 852) (tgt := 885) hx hb dL_law_33 (by decide) (by decide) (by decide +kernel) (by decide) (lc_sheet cx hX hbl hbA hi hL kk hR hW hS hl)
    | 30, _ => exact lv_tableIn (off := 895) (tgt := 928) hx hb dL_law_33 (by decide) (by decide) (by decide +kernel) (by decide) (lc_write cx hX hbl hbA hi hL kk hR hW hS hl)
    | 31, _ => exact lv_tableIn (off := 969) (tgt := 1002) hx hb dL_law_33 (by decide) (by decide) (by decide +kernel) (by decide) (lc_copy cx hX hbl hbA hi hL kk hR hW hS hl)
    | 32, _ => exact lv_tableIn (off := 1032) (tgt := 1065) hx hb dL_law_33 (by decide) (by decide) (by decide +kernel) (by decide) (lc_lays cx hX hbl hbA hi hL kk hR hW hS hl)
    | 33, _ => exact lv_tableIn (off := 1055) (tgt := 1088) hx hb dL_law_33 (by decide) (by decide) (by decide +kernel) (by decide) (lc_book cx hX hbl hbA hi hL kk hR hW hS hl)
    | 34, _ => exact lv_tableIn (off := 1088) (tgt := 1121) hx hb dL_law_33 (by decide) (by decide) (by decide +kernel) (by decide) (lc_read cx hX hbl hbA hi hL kk hR hW hS hl)
    | 35, _ => exact lv_tableIn (off := 1121) (tgt := 1154) hx hb dL_law_33 (by decide) (by decide) (by decide +kernel) (by decide) (lc_image cx hX hbl hbA hi hL kk hR hW hS hl)
    | 36, _ => exact lv_tableIn (off := 1134) (tgt := 1167) hx hb dL_law_33 (by decide) (by decide) (by decide +kernel) (by decide) (lc_undo cx hX hbl hbA hi hL kk hR hW hS hl)
    | 37, _ => exact lv_tableIn (off := 1147) (tgt := 1180) hx hb dL_law_33 (by decide) (by decide) (by decide +kernel) (by decide) (lc_tear cx hX hbl hbA hi hL kk hR hW hS hl)
    | 38, _ => exact lv_tableIn (off := 1160) (tgt := 1193) hx hb dL_law_33 (by decide) (by decide) (by decide +kernel) (by decide) (lc_count cx hX hbl hbA hi hL kk hR hW hS hl)
    | 39, _ => exact lv_tableIn (off := 1183) (tgt := 1216) hx hb dL_law_33 (by decide) (by decide) (by decide +kernel) (by decide) (lc_status cx hX hbl hbA hi hL kk hR hW hS hl)
    | j + 40, hj => exact absurd hj (by omega)
  · exact lv_tableOut (tgt := 1239) hx hb dL_law_33 (by omega) (by decide) (kk _ _ _ _ hR hW hS hl)
end LW
