/-! THE LAW: its cases -/
set_option maxHeartbeats 1000000 in
theorem lc_0 {p : Program} {l : Launch} {e : Env} {s : State} {m : MethodId} {below : List Frame} {meth : Method} {c : Code} {H : Heap} {locs : List Loc} {cells slots : Nat} {Q : State → Prop} {ls : Array Slot} {D : va_G} {E : Nat → ClassId} {tU b L g h k : Nat} {xs : Nat → Int32} {μ ν : XMem} (S : LSc p s c b L xs) (C : Cx p s m #[Value.ref b] c code 4 RL D E (fun q => s.heap.size ≤ q) tU) (I : LI D E s b g h μ ν H locs ls k) (hk : 6 * k + 6 ≤ L) (h1 : cells + 4 ≤ 600000) (h2 : slots + 202 ≤ 7302250)
    (kk : ∀ (H' : Heap) (locs' : List Loc) (μ' ν' : XMem), LI D E s b g h μ' ν' H' locs' ls k → W p l e room_1 s m #[Value.ref b] below meth c H' locs' (cells + 4) (slots + 202) Q (F0 m 1604 ls [])) :
    W p l e room_1 s m #[Value.ref b] below meth c H locs cells slots Q (F0 m 216 ls []) := by
  obtain ⟨tw, r, tg, th, hz, hl⟩ := I
  have hx := S.1
  have hb := S.2.1
  obtain ⟨r0, μ1, -, oc, -, -⟩ := op_cell r (xs (6 * k + 1)) (xs (6 * k + 2)) (xs (6 * k + 3)) (xs (6 * k + 4))
  refine lv_aload_n hx hb dL_law_216 rfl (lv_at hl 1 rfl) ?_
  refine ls_arg S tw hl hk (j := 1) (by omega) rfl dL_law_217 dL_law_218 dL_law_219 dL_law_220 dL_law_221 ?_
  refine ls_arg S tw hl hk (j := 2) (by omega) rfl dL_law_222 dL_law_223 dL_law_224 dL_law_225 dL_law_226 ?_
  refine ls_arg S tw hl hk (j := 3) (by omega) rfl dL_law_227 dL_law_228 dL_law_229 dL_law_230 dL_law_231 ?_
  refine ls_arg S tw hl hk (j := 4) (by omega) rfl dL_law_232 dL_law_233 dL_law_234 dL_law_235 dL_law_236 ?_
  refine lw_callV (As := [.int (xs (6 * k + 1)), .int (xs (6 * k + 2)), .int (xs (6 * k + 3)), .int (xs (6 * k + 4))]) (rest := []) C hl.1 tw cb_L_13 cv_X9_cell (k_X9_cell rfl tg oc) tg rfl rfl ⟨by decide, by decide⟩ ⟨by show cells + 0 ≤ 600000; omega, by show slots + 0 ≤ 7302250; omega⟩ rfl (Nat.le_of_ble_eq_true rfl) dL_law_237 (fun t => XA.of t.1) (fun H1 locs1 tw1 hz1 tp1 => ?_)
  have tg1 : mT μ1 g = some (.inl 9) := (XA.of tp1.1).1 g _ tg
  obtain ⟨r1, μ2, ν2, oc2, om2, rel2⟩ := op_cell (r.szr (z := H1.size)) (xs (6 * k + 1)) (xs (6 * k + 2)) (xs (6 * k + 3)) (xs (6 * k + 4))
  obtain ⟨rfl, rfl⟩ : r0 = r1 ∧ μ1 = μ2 := by
    rw [oc] at oc2
    cases oc2
    exact ⟨rfl, rfl⟩
  refine lv_aload_n hx hb dL_law_240 rfl (lv_at hl 2 rfl) ?_
  refine ls_arg S tw1 hl hk (j := 1) (by omega) rfl dL_law_241 dL_law_242 dL_law_243 dL_law_244 dL_law_245 ?_
  refine ls_arg S tw1 hl hk (j := 2) (by omega) rfl dL_law_246 dL_law_247 dL_law_248 dL_law_249 dL_law_250 ?_
  refine ls_arg S tw1 hl hk (j := 3) (by omega) rfl dL_law_251 dL_law_252 dL_law_253 dL_law_254 dL_law_255 ?_
  refine ls_arg S tw1 hl hk (j := 4) (by omega) rfl dL_law_256 dL_law_257 dL_law_258 dL_law_259 dL_law_260 ?_
  refine lw_callV (As := [.int (xs (6 * k + 1)), .int (xs (6 * k + 2)), .int (xs (6 * k + 3)), .int (xs (6 * k + 4))]) (rest := [.int r0]) C hl.1 tw1.symm cb_L_17 cv_X10_cell (k_X10_cell rfl th om2) th rfl rfl ⟨by decide, by decide⟩ ⟨by show cells + 0 + 0 ≤ 600000; omega, by show slots + 0 + 0 ≤ 7302250; omega⟩ rfl (Nat.le_of_ble_eq_true rfl) dL_law_261 (fun t => XA.of t.1) (fun H2 locs2 tw2 hz2 tp2 => ?_)
  have th2 : mT ν2 h = some (.inl 10) := (XA.of tp2.1).1 h _ th
  refine lv_icmp_eq (tgt := 1604) hx hb dL_law_264 (by decide) (fun _ => ?_) (fun q => absurd rfl q)
  refine W.widen (k := cells + 4) (n := slots + 202) (by omega) (by omega) ?_
  exact kk H2 locs2 (sZ μ1 H2.size) ν2 ⟨tw2.symm, rel2.szl, tg1, th2, by omega, hl⟩
set_option maxHeartbeats 1000000 in
theorem lc_1 {p : Program} {l : Launch} {e : Env} {s : State} {m : MethodId} {below : List Frame} {meth : Method} {c : Code} {H : Heap} {locs : List Loc} {cells slots : Nat} {Q : State → Prop} {ls : Array Slot} {D : va_G} {E : Nat → ClassId} {tU b L g h k : Nat} {xs : Nat → Int32} {μ ν : XMem} (S : LSc p s c b L xs) (C : Cx p s m #[Value.ref b] c code 4 RL D E (fun q => s.heap.size ≤ q) tU) (I : LI D E s b g h μ ν H locs ls k) (hk : 6 * k + 6 ≤ L) (h1 : cells + 4 ≤ 600000) (h2 : slots + 202 ≤ 7302250)
    (kk : ∀ (H' : Heap) (locs' : List Loc) (μ' ν' : XMem), LI D E s b g h μ' ν' H' locs' ls k → W p l e room_1 s m #[Value.ref b] below meth c H' locs' (cells + 4) (slots + 202) Q (F0 m 1604 ls [])) :
    W p l e room_1 s m #[Value.ref b] below meth c H locs cells slots Q (F0 m 269 ls []) := by
  obtain ⟨tw, r, tg, th, hz, hl⟩ := I
  have hx := S.1
  have hb := S.2.1
  obtain ⟨r0, μ1, -, oc, -, -⟩ := op_power r (xs (6 * k + 1)) (xs (6 * k + 2))
  refine lv_aload_n hx hb dL_law_269 rfl (lv_at hl 1 rfl) ?_
  refine ls_arg S tw hl hk (j := 1) (by omega) rfl dL_law_270 dL_law_271 dL_law_272 dL_law_273 dL_law_274 ?_
  refine ls_arg S tw hl hk (j := 2) (by omega) rfl dL_law_275 dL_law_276 dL_law_277 dL_law_278 dL_law_279 ?_
  refine lw_callV (As := [.int (xs (6 * k + 1)), .int (xs (6 * k + 2))]) (rest := []) C hl.1 tw cb_L_18 cv_X9_power (k_X9_power rfl tg oc) tg rfl rfl ⟨by decide, by decide⟩ ⟨by show cells + 0 ≤ 600000; omega, by show slots + 0 ≤ 7302250; omega⟩ rfl (Nat.le_of_ble_eq_true rfl) dL_law_280 (fun t => XA.of t.1) (fun H1 locs1 tw1 hz1 tp1 => ?_)
  have tg1 : mT μ1 g = some (.inl 9) := (XA.of tp1.1).1 g _ tg
  obtain ⟨r1, μ2, ν2, oc2, om2, rel2⟩ := op_power (r.szr (z := H1.size)) (xs (6 * k + 1)) (xs (6 * k + 2))
  obtain ⟨rfl, rfl⟩ : r0 = r1 ∧ μ1 = μ2 := by
    rw [oc] at oc2
    cases oc2
    exact ⟨rfl, rfl⟩
  refine lv_aload_n hx hb dL_law_283 rfl (lv_at hl 2 rfl) ?_
  refine ls_arg S tw1 hl hk (j := 1) (by omega) rfl dL_law_284 dL_law_285 dL_law_286 dL_law_287 dL_law_288 ?_
  refine ls_arg S tw1 hl hk (j := 2) (by omega) rfl dL_law_289 dL_law_290 dL_law_291 dL_law_292 dL_law_293 ?_
  refine lw_callV (As := [.int (xs (6 * k + 1)), .int (xs (6 * k + 2))]) (rest := [.int r0]) C hl.1 tw1.symm cb_L_22 cv_X10_power (k_X10_power rfl th om2) th rfl rfl ⟨by decide, by decide⟩ ⟨by show cells + 0 + 0 ≤ 600000; omega, by show slots + 0 + 0 ≤ 7302250; omega⟩ rfl (Nat.le_of_ble_eq_true rfl) dL_law_294 (fun t => XA.of t.1) (fun H2 locs2 tw2 hz2 tp2 => ?_)
  have th2 : mT ν2 h = some (.inl 10) := (XA.of tp2.1).1 h _ th
  refine lv_icmp_eq (tgt := 1604) hx hb dL_law_297 (by decide) (fun _ => ?_) (fun q => absurd rfl q)
  refine W.widen (k := cells + 4) (n := slots + 202) (by omega) (by omega) ?_
  exact kk H2 locs2 (sZ μ1 H2.size) ν2 ⟨tw2.symm, rel2.szl, tg1, th2, by omega, hl⟩
set_option maxHeartbeats 1000000 in
theorem lc_2 {p : Program} {l : Launch} {e : Env} {s : State} {m : MethodId} {below : List Frame} {meth : Method} {c : Code} {H : Heap} {locs : List Loc} {cells slots : Nat} {Q : State → Prop} {ls : Array Slot} {D : va_G} {E : Nat → ClassId} {tU b L g h k : Nat} {xs : Nat → Int32} {μ ν : XMem} (S : LSc p s c b L xs) (C : Cx p s m #[Value.ref b] c code 4 RL D E (fun q => s.heap.size ≤ q) tU) (I : LI D E s b g h μ ν H locs ls k) (hk : 6 * k + 6 ≤ L) (h1 : cells + 4 ≤ 600000) (h2 : slots + 202 ≤ 7302250)
    (kk : ∀ (H' : Heap) (locs' : List Loc) (μ' ν' : XMem), LI D E s b g h μ' ν' H' locs' ls k → W p l e room_1 s m #[Value.ref b] below meth c H' locs' (cells + 4) (slots + 202) Q (F0 m 1604 ls [])) :
    W p l e room_1 s m #[Value.ref b] below meth c H locs cells slots Q (F0 m 302 ls []) := by
  obtain ⟨tw, r, tg, th, hz, hl⟩ := I
  have hx := S.1
  have hb := S.2.1
  obtain ⟨r0, μ1, -, oc, -, -⟩ := op_top r (xs (6 * k + 1)) (xs (6 * k + 2))
  refine lv_aload_n hx hb dL_law_302 rfl (lv_at hl 1 rfl) ?_
  refine ls_arg S tw hl hk (j := 1) (by omega) rfl dL_law_303 dL_law_304 dL_law_305 dL_law_306 dL_law_307 ?_
  refine ls_arg S tw hl hk (j := 2) (by omega) rfl dL_law_308 dL_law_309 dL_law_310 dL_law_311 dL_law_312 ?_
  refine lw_callV (As := [.int (xs (6 * k + 1)), .int (xs (6 * k + 2))]) (rest := []) C hl.1 tw cb_L_23 cv_X9_top (k_X9_top rfl tg oc) tg rfl rfl ⟨by decide, by decide⟩ ⟨by show cells + 0 ≤ 600000; omega, by show slots + 0 ≤ 7302250; omega⟩ rfl (Nat.le_of_ble_eq_true rfl) dL_law_313 (fun t => XA.of t.1) (fun H1 locs1 tw1 hz1 tp1 => ?_)
  have tg1 : mT μ1 g = some (.inl 9) := (XA.of tp1.1).1 g _ tg
  obtain ⟨r1, μ2, ν2, oc2, om2, rel2⟩ := op_top (r.szr (z := H1.size)) (xs (6 * k + 1)) (xs (6 * k + 2))
  obtain ⟨rfl, rfl⟩ : r0 = r1 ∧ μ1 = μ2 := by
    rw [oc] at oc2
    cases oc2
    exact ⟨rfl, rfl⟩
  refine lv_aload_n hx hb dL_law_316 rfl (lv_at hl 2 rfl) ?_
  refine ls_arg S tw1 hl hk (j := 1) (by omega) rfl dL_law_317 dL_law_318 dL_law_319 dL_law_320 dL_law_321 ?_
  refine ls_arg S tw1 hl hk (j := 2) (by omega) rfl dL_law_322 dL_law_323 dL_law_324 dL_law_325 dL_law_326 ?_
  refine lw_callV (As := [.int (xs (6 * k + 1)), .int (xs (6 * k + 2))]) (rest := [.int r0]) C hl.1 tw1.symm cb_L_26 cv_X10_top (k_X10_top rfl th om2) th rfl rfl ⟨by decide, by decide⟩ ⟨by show cells + 0 + 0 ≤ 600000; omega, by show slots + 0 + 0 ≤ 7302250; omega⟩ rfl (Nat.le_of_ble_eq_true rfl) dL_law_327 (fun t => XA.of t.1) (fun H2 locs2 tw2 hz2 tp2 => ?_)
  have th2 : mT ν2 h = some (.inl 10) := (XA.of tp2.1).1 h _ th
  refine lv_icmp_eq (tgt := 1604) hx hb dL_law_330 (by decide) (fun _ => ?_) (fun q => absurd rfl q)
  refine W.widen (k := cells + 4) (n := slots + 202) (by omega) (by omega) ?_
  exact kk H2 locs2 (sZ μ1 H2.size) ν2 ⟨tw2.symm, rel2.szl, tg1, th2, by omega, hl⟩
set_option maxHeartbeats 1000000 in
theorem lc_3 {p : Program} {l : Launch} {e : Env} {s : State} {m : MethodId} {below : List Frame} {meth : Method} {c : Code} {H : Heap} {locs : List Loc} {cells slots : Nat} {Q : State → Prop} {ls : Array Slot} {D : va_G} {E : Nat → ClassId} {tU b L g h k : Nat} {xs : Nat → Int32} {μ ν : XMem} (S : LSc p s c b L xs) (C : Cx p s m #[Value.ref b] c code 4 RL D E (fun q => s.heap.size ≤ q) tU) (I : LI D E s b g h μ ν H locs ls k) (hk : 6 * k + 6 ≤ L) (h1 : cells + 4 ≤ 600000) (h2 : slots + 202 ≤ 7302250)
    (kk : ∀ (H' : Heap) (locs' : List Loc) (μ' ν' : XMem), LI D E s b g h μ' ν' H' locs' ls k → W p l e room_1 s m #[Value.ref b] below meth c H' locs' (cells + 4) (slots + 202) Q (F0 m 1604 ls [])) :
    W p l e room_1 s m #[Value.ref b] below meth c H locs cells slots Q (F0 m 335 ls []) := by
  obtain ⟨tw, r, tg, th, hz, hl⟩ := I
  have hx := S.1
  have hb := S.2.1
  obtain ⟨r0, μ1, -, oc, -, -⟩ := op_hours r (xs (6 * k + 1))
  refine lv_aload_n hx hb dL_law_335 rfl (lv_at hl 1 rfl) ?_
  refine ls_arg S tw hl hk (j := 1) (by omega) rfl dL_law_336 dL_law_337 dL_law_338 dL_law_339 dL_law_340 ?_
  refine lw_callV (As := [.int (xs (6 * k + 1))]) (rest := []) C hl.1 tw cb_L_27 cv_X9_hours (k_X9_hours rfl tg oc) tg rfl rfl ⟨by decide, by decide⟩ ⟨by show cells + 0 ≤ 600000; omega, by show slots + 0 ≤ 7302250; omega⟩ rfl (Nat.le_of_ble_eq_true rfl) dL_law_341 (fun t => XA.of t.1) (fun H1 locs1 tw1 hz1 tp1 => ?_)
  have tg1 : mT μ1 g = some (.inl 9) := (XA.of tp1.1).1 g _ tg
  obtain ⟨r1, μ2, ν2, oc2, om2, rel2⟩ := op_hours (r.szr (z := H1.size)) (xs (6 * k + 1))
  obtain ⟨rfl, rfl⟩ : r0 = r1 ∧ μ1 = μ2 := by
    rw [oc] at oc2
    cases oc2
    exact ⟨rfl, rfl⟩
  refine lv_aload_n hx hb dL_law_344 rfl (lv_at hl 2 rfl) ?_
  refine ls_arg S tw1 hl hk (j := 1) (by omega) rfl dL_law_345 dL_law_346 dL_law_347 dL_law_348 dL_law_349 ?_
  refine lw_callV (As := [.int (xs (6 * k + 1))]) (rest := [.int r0]) C hl.1 tw1.symm cb_L_31 cv_X10_hours (k_X10_hours rfl th om2) th rfl rfl ⟨by decide, by decide⟩ ⟨by show cells + 0 + 0 ≤ 600000; omega, by show slots + 0 + 0 ≤ 7302250; omega⟩ rfl (Nat.le_of_ble_eq_true rfl) dL_law_350 (fun t => XA.of t.1) (fun H2 locs2 tw2 hz2 tp2 => ?_)
  have th2 : mT ν2 h = some (.inl 10) := (XA.of tp2.1).1 h _ th
  refine lv_icmp_eq (tgt := 1604) hx hb dL_law_353 (by decide) (fun _ => ?_) (fun q => absurd rfl q)
  refine W.widen (k := cells + 4) (n := slots + 202) (by omega) (by omega) ?_
  exact kk H2 locs2 (sZ μ1 H2.size) ν2 ⟨tw2.symm, rel2.szl, tg1, th2, by omega, hl⟩
set_option maxHeartbeats 1000000 in
theorem lc_4 {p : Program} {l : Launch} {e : Env} {s : State} {m : MethodId} {below : List Frame} {meth : Method} {c : Code} {H : Heap} {locs : List Loc} {cells slots : Nat} {Q : State → Prop} {ls : Array Slot} {D : va_G} {E : Nat → ClassId} {tU b L g h k : Nat} {xs : Nat → Int32} {μ ν : XMem} (S : LSc p s c b L xs) (C : Cx p s m #[Value.ref b] c code 4 RL D E (fun q => s.heap.size ≤ q) tU) (I : LI D E s b g h μ ν H locs ls k) (hk : 6 * k + 6 ≤ L) (h1 : cells + 4 ≤ 600000) (h2 : slots + 202 ≤ 7302250)
    (kk : ∀ (H' : Heap) (locs' : List Loc) (μ' ν' : XMem), LI D E s b g h μ' ν' H' locs' ls k → W p l e room_1 s m #[Value.ref b] below meth c H' locs' (cells + 4) (slots + 202) Q (F0 m 1604 ls [])) :
    W p l e room_1 s m #[Value.ref b] below meth c H locs cells slots Q (F0 m 358 ls []) := by
  obtain ⟨tw, r, tg, th, hz, hl⟩ := I
  have hx := S.1
  have hb := S.2.1
  obtain ⟨r0, μ1, -, oc, -, -⟩ := op_of r (xs (6 * k + 1)) (xs (6 * k + 2))
  refine lv_aload_n hx hb dL_law_358 rfl (lv_at hl 1 rfl) ?_
  refine ls_arg S tw hl hk (j := 1) (by omega) rfl dL_law_359 dL_law_360 dL_law_361 dL_law_362 dL_law_363 ?_
  refine ls_arg S tw hl hk (j := 2) (by omega) rfl dL_law_364 dL_law_365 dL_law_366 dL_law_367 dL_law_368 ?_
  refine lw_callV (As := [.int (xs (6 * k + 1)), .int (xs (6 * k + 2))]) (rest := []) C hl.1 tw cb_L_32 cv_X9_of (k_X9_of rfl tg oc) tg rfl rfl ⟨by decide, by decide⟩ ⟨by show cells + 0 ≤ 600000; omega, by show slots + 0 ≤ 7302250; omega⟩ rfl (Nat.le_of_ble_eq_true rfl) dL_law_369 (fun t => XA.of t.1) (fun H1 locs1 tw1 hz1 tp1 => ?_)
  have tg1 : mT μ1 g = some (.inl 9) := (XA.of tp1.1).1 g _ tg
  obtain ⟨r1, μ2, ν2, oc2, om2, rel2⟩ := op_of (r.szr (z := H1.size)) (xs (6 * k + 1)) (xs (6 * k + 2))
  obtain ⟨rfl, rfl⟩ : r0 = r1 ∧ μ1 = μ2 := by
    rw [oc] at oc2
    cases oc2
    exact ⟨rfl, rfl⟩
  refine lv_aload_n hx hb dL_law_372 rfl (lv_at hl 2 rfl) ?_
  refine ls_arg S tw1 hl hk (j := 1) (by omega) rfl dL_law_373 dL_law_374 dL_law_375 dL_law_376 dL_law_377 ?_
  refine ls_arg S tw1 hl hk (j := 2) (by omega) rfl dL_law_378 dL_law_379 dL_law_380 dL_law_381 dL_law_382 ?_
  refine lw_callV (As := [.int (xs (6 * k + 1)), .int (xs (6 * k + 2))]) (rest := [.int r0]) C hl.1 tw1.symm cb_L_35 cv_X10_of (k_X10_of rfl th om2) th rfl rfl ⟨by decide, by decide⟩ ⟨by show cells + 0 + 0 ≤ 600000; omega, by show slots + 0 + 0 ≤ 7302250; omega⟩ rfl (Nat.le_of_ble_eq_true rfl) dL_law_383 (fun t => XA.of t.1) (fun H2 locs2 tw2 hz2 tp2 => ?_)
  have th2 : mT ν2 h = some (.inl 10) := (XA.of tp2.1).1 h _ th
  refine lv_icmp_eq (tgt := 1604) hx hb dL_law_386 (by decide) (fun _ => ?_) (fun q => absurd rfl q)
  refine W.widen (k := cells + 4) (n := slots + 202) (by omega) (by omega) ?_
  exact kk H2 locs2 (sZ μ1 H2.size) ν2 ⟨tw2.symm, rel2.szl, tg1, th2, by omega, hl⟩
set_option maxHeartbeats 1000000 in
theorem lc_5 {p : Program} {l : Launch} {e : Env} {s : State} {m : MethodId} {below : List Frame} {meth : Method} {c : Code} {H : Heap} {locs : List Loc} {cells slots : Nat} {Q : State → Prop} {ls : Array Slot} {D : va_G} {E : Nat → ClassId} {tU b L g h k : Nat} {xs : Nat → Int32} {μ ν : XMem} (S : LSc p s c b L xs) (C : Cx p s m #[Value.ref b] c code 4 RL D E (fun q => s.heap.size ≤ q) tU) (I : LI D E s b g h μ ν H locs ls k) (hk : 6 * k + 6 ≤ L) (h1 : cells + 4 ≤ 600000) (h2 : slots + 202 ≤ 7302250)
    (kk : ∀ (H' : Heap) (locs' : List Loc) (μ' ν' : XMem), LI D E s b g h μ' ν' H' locs' ls k → W p l e room_1 s m #[Value.ref b] below meth c H' locs' (cells + 4) (slots + 202) Q (F0 m 1604 ls [])) :
    W p l e room_1 s m #[Value.ref b] below meth c H locs cells slots Q (F0 m 391 ls []) := by
  obtain ⟨tw, r, tg, th, hz, hl⟩ := I
  have hx := S.1
  have hb := S.2.1
  obtain ⟨r0, μ1, -, oc, -, -⟩ := op_latest r (xs (6 * k + 1)) (xs (6 * k + 2))
  refine lv_aload_n hx hb dL_law_391 rfl (lv_at hl 1 rfl) ?_
  refine ls_arg S tw hl hk (j := 1) (by omega) rfl dL_law_392 dL_law_393 dL_law_394 dL_law_395 dL_law_396 ?_
  refine ls_arg S tw hl hk (j := 2) (by omega) rfl dL_law_397 dL_law_398 dL_law_399 dL_law_400 dL_law_401 ?_
  refine lw_callV (As := [.int (xs (6 * k + 1)), .int (xs (6 * k + 2))]) (rest := []) C hl.1 tw cb_L_36 cv_X9_latest (k_X9_latest rfl tg oc) tg rfl rfl ⟨by decide, by decide⟩ ⟨by show cells + 0 ≤ 600000; omega, by show slots + 0 ≤ 7302250; omega⟩ rfl (Nat.le_of_ble_eq_true rfl) dL_law_402 (fun t => XA.of t.1) (fun H1 locs1 tw1 hz1 tp1 => ?_)
  have tg1 : mT μ1 g = some (.inl 9) := (XA.of tp1.1).1 g _ tg
  obtain ⟨r1, μ2, ν2, oc2, om2, rel2⟩ := op_latest (r.szr (z := H1.size)) (xs (6 * k + 1)) (xs (6 * k + 2))
  obtain ⟨rfl, rfl⟩ : r0 = r1 ∧ μ1 = μ2 := by
    rw [oc] at oc2
    cases oc2
    exact ⟨rfl, rfl⟩
  refine lv_aload_n hx hb dL_law_405 rfl (lv_at hl 2 rfl) ?_
  refine ls_arg S tw1 hl hk (j := 1) (by omega) rfl dL_law_406 dL_law_407 dL_law_408 dL_law_409 dL_law_410 ?_
  refine ls_arg S tw1 hl hk (j := 2) (by omega) rfl dL_law_411 dL_law_412 dL_law_413 dL_law_414 dL_law_415 ?_
  refine lw_callV (As := [.int (xs (6 * k + 1)), .int (xs (6 * k + 2))]) (rest := [.int r0]) C hl.1 tw1.symm cb_L_39 cv_X10_latest (k_X10_latest rfl th om2) th rfl rfl ⟨by decide, by decide⟩ ⟨by show cells + 0 + 0 ≤ 600000; omega, by show slots + 0 + 0 ≤ 7302250; omega⟩ rfl (Nat.le_of_ble_eq_true rfl) dL_law_416 (fun t => XA.of t.1) (fun H2 locs2 tw2 hz2 tp2 => ?_)
  have th2 : mT ν2 h = some (.inl 10) := (XA.of tp2.1).1 h _ th
  refine lv_icmp_eq (tgt := 1604) hx hb dL_law_419 (by decide) (fun _ => ?_) (fun q => absurd rfl q)
  refine W.widen (k := cells + 4) (n := slots + 202) (by omega) (by omega) ?_
  exact kk H2 locs2 (sZ μ1 H2.size) ν2 ⟨tw2.symm, rel2.szl, tg1, th2, by omega, hl⟩
set_option maxHeartbeats 1000000 in
theorem lc_6 {p : Program} {l : Launch} {e : Env} {s : State} {m : MethodId} {below : List Frame} {meth : Method} {c : Code} {H : Heap} {locs : List Loc} {cells slots : Nat} {Q : State → Prop} {ls : Array Slot} {D : va_G} {E : Nat → ClassId} {tU b L g h k : Nat} {xs : Nat → Int32} {μ ν : XMem} (S : LSc p s c b L xs) (C : Cx p s m #[Value.ref b] c code 4 RL D E (fun q => s.heap.size ≤ q) tU) (I : LI D E s b g h μ ν H locs ls k) (hk : 6 * k + 6 ≤ L) (h1 : cells + 4 ≤ 600000) (h2 : slots + 202 ≤ 7302250)
    (kk : ∀ (H' : Heap) (locs' : List Loc) (μ' ν' : XMem), LI D E s b g h μ' ν' H' locs' ls k → W p l e room_1 s m #[Value.ref b] below meth c H' locs' (cells + 4) (slots + 202) Q (F0 m 1604 ls [])) :
    W p l e room_1 s m #[Value.ref b] below meth c H locs cells slots Q (F0 m 424 ls []) := by
  obtain ⟨tw, r, tg, th, hz, hl⟩ := I
  have hx := S.1
  have hb := S.2.1
  obtain ⟨r0, μ1, -, oc, -, -⟩ := op_ever r (xs (6 * k + 1)) (xs (6 * k + 2))
  refine lv_aload_n hx hb dL_law_424 rfl (lv_at hl 1 rfl) ?_
  refine ls_arg S tw hl hk (j := 1) (by omega) rfl dL_law_425 dL_law_426 dL_law_427 dL_law_428 dL_law_429 ?_
  refine ls_arg S tw hl hk (j := 2) (by omega) rfl dL_law_430 dL_law_431 dL_law_432 dL_law_433 dL_law_434 ?_
  refine lw_callV (As := [.int (xs (6 * k + 1)), .int (xs (6 * k + 2))]) (rest := []) C hl.1 tw cb_L_40 cv_X9_ever (k_X9_ever rfl tg oc) tg rfl rfl ⟨by decide, by decide⟩ ⟨by show cells + 0 ≤ 600000; omega, by show slots + 0 ≤ 7302250; omega⟩ rfl (Nat.le_of_ble_eq_true rfl) dL_law_435 (fun t => XA.of t.1) (fun H1 locs1 tw1 hz1 tp1 => ?_)
  have tg1 : mT μ1 g = some (.inl 9) := (XA.of tp1.1).1 g _ tg
  obtain ⟨r1, μ2, ν2, oc2, om2, rel2⟩ := op_ever (r.szr (z := H1.size)) (xs (6 * k + 1)) (xs (6 * k + 2))
  obtain ⟨rfl, rfl⟩ : r0 = r1 ∧ μ1 = μ2 := by
    rw [oc] at oc2
    cases oc2
    exact ⟨rfl, rfl⟩
  refine lv_aload_n hx hb dL_law_438 rfl (lv_at hl 2 rfl) ?_
  refine ls_arg S tw1 hl hk (j := 1) (by omega) rfl dL_law_439 dL_law_440 dL_law_441 dL_law_442 dL_law_443 ?_
  refine ls_arg S tw1 hl hk (j := 2) (by omega) rfl dL_law_444 dL_law_445 dL_law_446 dL_law_447 dL_law_448 ?_
  refine lw_callV (As := [.int (xs (6 * k + 1)), .int (xs (6 * k + 2))]) (rest := [.int r0]) C hl.1 tw1.symm cb_L_43 cv_X10_ever (k_X10_ever rfl th om2) th rfl rfl ⟨by decide, by decide⟩ ⟨by show cells + 0 + 0 ≤ 600000; omega, by show slots + 0 + 0 ≤ 7302250; omega⟩ rfl (Nat.le_of_ble_eq_true rfl) dL_law_449 (fun t => XA.of t.1) (fun H2 locs2 tw2 hz2 tp2 => ?_)
  have th2 : mT ν2 h = some (.inl 10) := (XA.of tp2.1).1 h _ th
  refine lv_icmp_eq (tgt := 1604) hx hb dL_law_452 (by decide) (fun _ => ?_) (fun q => absurd rfl q)
  refine W.widen (k := cells + 4) (n := slots + 202) (by omega) (by omega) ?_
  exact kk H2 locs2 (sZ μ1 H2.size) ν2 ⟨tw2.symm, rel2.szl, tg1, th2, by omega, hl⟩
set_option maxHeartbeats 1000000 in
theorem lc_7 {p : Program} {l : Launch} {e : Env} {s : State} {m : MethodId} {below : List Frame} {meth : Method} {c : Code} {H : Heap} {locs : List Loc} {cells slots : Nat} {Q : State → Prop} {ls : Array Slot} {D : va_G} {E : Nat → ClassId} {tU b L g h k : Nat} {xs : Nat → Int32} {μ ν : XMem} (S : LSc p s c b L xs) (C : Cx p s m #[Value.ref b] c code 4 RL D E (fun q => s.heap.size ≤ q) tU) (I : LI D E s b g h μ ν H locs ls k) (hk : 6 * k + 6 ≤ L) (h1 : cells + 4 ≤ 600000) (h2 : slots + 202 ≤ 7302250)
    (kk : ∀ (H' : Heap) (locs' : List Loc) (μ' ν' : XMem), LI D E s b g h μ' ν' H' locs' ls k → W p l e room_1 s m #[Value.ref b] below meth c H' locs' (cells + 4) (slots + 202) Q (F0 m 1604 ls [])) :
    W p l e room_1 s m #[Value.ref b] below meth c H locs cells slots Q (F0 m 457 ls []) := by
  obtain ⟨tw, r, tg, th, hz, hl⟩ := I
  have hx := S.1
  have hb := S.2.1
  obtain ⟨r0, μ1, -, oc, -, -⟩ := op_as r (xs (6 * k + 1)) (xs (6 * k + 2))
  refine lv_aload_n hx hb dL_law_457 rfl (lv_at hl 1 rfl) ?_
  refine ls_arg S tw hl hk (j := 1) (by omega) rfl dL_law_458 dL_law_459 dL_law_460 dL_law_461 dL_law_462 ?_
  refine ls_arg S tw hl hk (j := 2) (by omega) rfl dL_law_463 dL_law_464 dL_law_465 dL_law_466 dL_law_467 ?_
  refine lw_callV (As := [.int (xs (6 * k + 1)), .int (xs (6 * k + 2))]) (rest := []) C hl.1 tw cb_L_44 cv_X9_as (k_X9_as rfl tg oc) tg rfl rfl ⟨by decide, by decide⟩ ⟨by show cells + 0 ≤ 600000; omega, by show slots + 0 ≤ 7302250; omega⟩ rfl (Nat.le_of_ble_eq_true rfl) dL_law_468 (fun t => XA.of t.1) (fun H1 locs1 tw1 hz1 tp1 => ?_)
  have tg1 : mT μ1 g = some (.inl 9) := (XA.of tp1.1).1 g _ tg
  obtain ⟨r1, μ2, ν2, oc2, om2, rel2⟩ := op_as (r.szr (z := H1.size)) (xs (6 * k + 1)) (xs (6 * k + 2))
  obtain ⟨rfl, rfl⟩ : r0 = r1 ∧ μ1 = μ2 := by
    rw [oc] at oc2
    cases oc2
    exact ⟨rfl, rfl⟩
  refine lv_aload_n hx hb dL_law_471 rfl (lv_at hl 2 rfl) ?_
  refine ls_arg S tw1 hl hk (j := 1) (by omega) rfl dL_law_472 dL_law_473 dL_law_474 dL_law_475 dL_law_476 ?_
  refine ls_arg S tw1 hl hk (j := 2) (by omega) rfl dL_law_477 dL_law_478 dL_law_479 dL_law_480 dL_law_481 ?_
  refine lw_callV (As := [.int (xs (6 * k + 1)), .int (xs (6 * k + 2))]) (rest := [.int r0]) C hl.1 tw1.symm cb_L_47 cv_X10_as (k_X10_as rfl th om2) th rfl rfl ⟨by decide, by decide⟩ ⟨by show cells + 0 + 0 ≤ 600000; omega, by show slots + 0 + 0 ≤ 7302250; omega⟩ rfl (Nat.le_of_ble_eq_true rfl) dL_law_482 (fun t => XA.of t.1) (fun H2 locs2 tw2 hz2 tp2 => ?_)
  have th2 : mT ν2 h = some (.inl 10) := (XA.of tp2.1).1 h _ th
  refine lv_icmp_eq (tgt := 1604) hx hb dL_law_485 (by decide) (fun _ => ?_) (fun q => absurd rfl q)
  refine W.widen (k := cells + 4) (n := slots + 202) (by omega) (by omega) ?_
  exact kk H2 locs2 (sZ μ1 H2.size) ν2 ⟨tw2.symm, rel2.szl, tg1, th2, by omega, hl⟩
set_option maxHeartbeats 1000000 in
theorem lc_8 {p : Program} {l : Launch} {e : Env} {s : State} {m : MethodId} {below : List Frame} {meth : Method} {c : Code} {H : Heap} {locs : List Loc} {cells slots : Nat} {Q : State → Prop} {ls : Array Slot} {D : va_G} {E : Nat → ClassId} {tU b L g h k : Nat} {xs : Nat → Int32} {μ ν : XMem} (S : LSc p s c b L xs) (C : Cx p s m #[Value.ref b] c code 4 RL D E (fun q => s.heap.size ≤ q) tU) (I : LI D E s b g h μ ν H locs ls k) (hk : 6 * k + 6 ≤ L) (h1 : cells + 4 ≤ 600000) (h2 : slots + 202 ≤ 7302250)
    (kk : ∀ (H' : Heap) (locs' : List Loc) (μ' ν' : XMem), LI D E s b g h μ' ν' H' locs' ls k → W p l e room_1 s m #[Value.ref b] below meth c H' locs' (cells + 4) (slots + 202) Q (F0 m 1604 ls [])) :
    W p l e room_1 s m #[Value.ref b] below meth c H locs cells slots Q (F0 m 490 ls []) := by
  obtain ⟨tw, r, tg, th, hz, hl⟩ := I
  have hx := S.1
  have hb := S.2.1
  obtain ⟨r0, μ1, -, oc, -, -⟩ := op_feed r (xs (6 * k + 1)) (xs (6 * k + 2))
  refine lv_aload_n hx hb dL_law_490 rfl (lv_at hl 1 rfl) ?_
  refine ls_arg S tw hl hk (j := 1) (by omega) rfl dL_law_491 dL_law_492 dL_law_493 dL_law_494 dL_law_495 ?_
  refine ls_arg S tw hl hk (j := 2) (by omega) rfl dL_law_496 dL_law_497 dL_law_498 dL_law_499 dL_law_500 ?_
  refine lw_callV (As := [.int (xs (6 * k + 1)), .int (xs (6 * k + 2))]) (rest := []) C hl.1 tw cb_L_48 cv_X9_feed (k_X9_feed rfl tg oc) tg rfl rfl ⟨by decide, by decide⟩ ⟨by show cells + 0 ≤ 600000; omega, by show slots + 0 ≤ 7302250; omega⟩ rfl (Nat.le_of_ble_eq_true rfl) dL_law_501 (fun t => XA.of t.1) (fun H1 locs1 tw1 hz1 tp1 => ?_)
  have tg1 : mT μ1 g = some (.inl 9) := (XA.of tp1.1).1 g _ tg
  obtain ⟨r1, μ2, ν2, oc2, om2, rel2⟩ := op_feed (r.szr (z := H1.size)) (xs (6 * k + 1)) (xs (6 * k + 2))
  obtain ⟨rfl, rfl⟩ : r0 = r1 ∧ μ1 = μ2 := by
    rw [oc] at oc2
    cases oc2
    exact ⟨rfl, rfl⟩
  refine lv_aload_n hx hb dL_law_504 rfl (lv_at hl 2 rfl) ?_
  refine ls_arg S tw1 hl hk (j := 1) (by omega) rfl dL_law_505 dL_law_506 dL_law_507 dL_law_508 dL_law_509 ?_
  refine ls_arg S tw1 hl hk (j := 2) (by omega) rfl dL_law_510 dL_law_511 dL_law_512 dL_law_513 dL_law_514 ?_
  refine lw_callV (As := [.int (xs (6 * k + 1)), .int (xs (6 * k + 2))]) (rest := [.int r0]) C hl.1 tw1.symm cb_L_51 cv_X10_feed (k_X10_feed rfl th om2) th rfl rfl ⟨by decide, by decide⟩ ⟨by show cells + 0 + 0 ≤ 600000; omega, by show slots + 0 + 0 ≤ 7302250; omega⟩ rfl (Nat.le_of_ble_eq_true rfl) dL_law_515 (fun t => XA.of t.1) (fun H2 locs2 tw2 hz2 tp2 => ?_)
  have th2 : mT ν2 h = some (.inl 10) := (XA.of tp2.1).1 h _ th
  refine lv_icmp_eq (tgt := 1604) hx hb dL_law_518 (by decide) (fun _ => ?_) (fun q => absurd rfl q)
  refine W.widen (k := cells + 4) (n := slots + 202) (by omega) (by omega) ?_
  exact kk H2 locs2 (sZ μ1 H2.size) ν2 ⟨tw2.symm, rel2.szl, tg1, th2, by omega, hl⟩
set_option maxHeartbeats 1000000 in
theorem lc_9 {p : Program} {l : Launch} {e : Env} {s : State} {m : MethodId} {below : List Frame} {meth : Method} {c : Code} {H : Heap} {locs : List Loc} {cells slots : Nat} {Q : State → Prop} {ls : Array Slot} {D : va_G} {E : Nat → ClassId} {tU b L g h k : Nat} {xs : Nat → Int32} {μ ν : XMem} (S : LSc p s c b L xs) (C : Cx p s m #[Value.ref b] c code 4 RL D E (fun q => s.heap.size ≤ q) tU) (I : LI D E s b g h μ ν H locs ls k) (hk : 6 * k + 6 ≤ L) (h1 : cells + 4 ≤ 600000) (h2 : slots + 202 ≤ 7302250)
    (kk : ∀ (H' : Heap) (locs' : List Loc) (μ' ν' : XMem), LI D E s b g h μ' ν' H' locs' ls k → W p l e room_1 s m #[Value.ref b] below meth c H' locs' (cells + 4) (slots + 202) Q (F0 m 1604 ls [])) :
    W p l e room_1 s m #[Value.ref b] below meth c H locs cells slots Q (F0 m 523 ls []) := by
  obtain ⟨tw, r, tg, th, hz, hl⟩ := I
  have hx := S.1
  have hb := S.2.1
  obtain ⟨r0, μ1, -, oc, -, -⟩ := op_wipe r 
  refine lv_aload_n hx hb dL_law_523 rfl (lv_at hl 1 rfl) ?_
  refine lw_callV (As := []) (rest := []) C hl.1 tw cb_L_52 cv_X9_wipe (k_X9_wipe rfl tg oc) tg rfl rfl ⟨by decide, by decide⟩ ⟨by show cells + 0 ≤ 600000; omega, by show slots + 0 ≤ 7302250; omega⟩ rfl (Nat.le_of_ble_eq_true rfl) dL_law_524 (fun t => XA.of t.1) (fun H1 locs1 tw1 hz1 tp1 => ?_)
  have tg1 : mT μ1 g = some (.inl 9) := (XA.of tp1.1).1 g _ tg
  obtain ⟨r1, μ2, ν2, oc2, om2, rel2⟩ := op_wipe (r.szr (z := H1.size)) 
  obtain ⟨rfl, rfl⟩ : r0 = r1 ∧ μ1 = μ2 := by
    rw [oc] at oc2
    cases oc2
    exact ⟨rfl, rfl⟩
  refine lv_aload_n hx hb dL_law_527 rfl (lv_at hl 2 rfl) ?_
  refine lw_callV (As := []) (rest := [.int r0]) C hl.1 tw1.symm cb_L_56 cv_X10_wipe (k_X10_wipe rfl th om2) th rfl rfl ⟨by decide, by decide⟩ ⟨by show cells + 0 + 0 ≤ 600000; omega, by show slots + 0 + 0 ≤ 7302250; omega⟩ rfl (Nat.le_of_ble_eq_true rfl) dL_law_528 (fun t => XA.of t.1) (fun H2 locs2 tw2 hz2 tp2 => ?_)
  have th2 : mT ν2 h = some (.inl 10) := (XA.of tp2.1).1 h _ th
  refine lv_icmp_eq (tgt := 1604) hx hb dL_law_531 (by decide) (fun _ => ?_) (fun q => absurd rfl q)
  refine W.widen (k := cells + 4) (n := slots + 202) (by omega) (by omega) ?_
  exact kk H2 locs2 (sZ μ1 H2.size) ν2 ⟨tw2.symm, rel2.szl, tg1, th2, by omega, hl⟩
set_option maxHeartbeats 1000000 in
theorem lc_10 {p : Program} {l : Launch} {e : Env} {s : State} {m : MethodId} {below : List Frame} {meth : Method} {c : Code} {H : Heap} {locs : List Loc} {cells slots : Nat} {Q : State → Prop} {ls : Array Slot} {D : va_G} {E : Nat → ClassId} {tU b L g h k : Nat} {xs : Nat → Int32} {μ ν : XMem} (S : LSc p s c b L xs) (C : Cx p s m #[Value.ref b] c code 4 RL D E (fun q => s.heap.size ≤ q) tU) (I : LI D E s b g h μ ν H locs ls k) (hk : 6 * k + 6 ≤ L) (h1 : cells + 4 ≤ 600000) (h2 : slots + 202 ≤ 7302250)
    (kk : ∀ (H' : Heap) (locs' : List Loc) (μ' ν' : XMem), LI D E s b g h μ' ν' H' locs' ls k → W p l e room_1 s m #[Value.ref b] below meth c H' locs' (cells + 4) (slots + 202) Q (F0 m 1604 ls [])) :
    W p l e room_1 s m #[Value.ref b] below meth c H locs cells slots Q (F0 m 536 ls []) := by
  obtain ⟨tw, r, tg, th, hz, hl⟩ := I
  have hx := S.1
  have hb := S.2.1
  obtain ⟨r0, μ1, -, oc, -, -⟩ := op_law r tw.1.wty tg (by have := tw.1.1; omega) (xs (6 * k + 1))
  refine lv_aload_n hx hb dL_law_536 rfl (lv_at hl 1 rfl) ?_
  refine ls_arg S tw hl hk (j := 1) (by omega) rfl dL_law_537 dL_law_538 dL_law_539 dL_law_540 dL_law_541 ?_
  refine lw_callV (As := [.int (xs (6 * k + 1))]) (rest := []) C hl.1 tw cb_L_57 cv_X9_law (k_X9_law rfl tg oc) tg rfl rfl ⟨by decide, by decide⟩ ⟨by show cells + 3 ≤ 600000; omega, by show slots + 103 ≤ 7302250; omega⟩ rfl (Nat.le_of_ble_eq_true rfl) dL_law_542 (fun t => t.1) (fun H1 locs1 tw1 hz1 tp1 => ?_)
  have tg1 : mT μ1 g = some (.inl 9) := (tp1.1).1 g _ tg
  obtain ⟨r1, μ2, ν2, oc2, om2, rel2⟩ := op_law (r.szr (z := H1.size)) tw.1.wty tg (by have := tw.1.1; omega) (xs (6 * k + 1))
  obtain ⟨rfl, rfl⟩ : r0 = r1 ∧ μ1 = μ2 := by
    rw [oc] at oc2
    cases oc2
    exact ⟨rfl, rfl⟩
  refine lv_aload_n hx hb dL_law_545 rfl (lv_at hl 2 rfl) ?_
  refine ls_arg S tw1 hl hk (j := 1) (by omega) rfl dL_law_546 dL_law_547 dL_law_548 dL_law_549 dL_law_550 ?_
  refine lw_callV (As := [.int (xs (6 * k + 1))]) (rest := [.int r0]) C hl.1 tw1.symm cb_L_60 cv_X10_law (k_X10_law rfl th om2) th rfl rfl ⟨by decide, by decide⟩ ⟨by show cells + 3 + 0 ≤ 600000; omega, by show slots + 103 + 0 ≤ 7302250; omega⟩ rfl (Nat.le_of_ble_eq_true rfl) dL_law_551 (fun t => XA.of t.1) (fun H2 locs2 tw2 hz2 tp2 => ?_)
  have th2 : mT ν2 h = some (.inl 10) := (XA.of tp2.1).1 h _ th
  refine lv_icmp_eq (tgt := 1604) hx hb dL_law_554 (by decide) (fun _ => ?_) (fun q => absurd rfl q)
  refine W.widen (k := cells + 4) (n := slots + 202) (by omega) (by omega) ?_
  exact kk H2 locs2 (sZ μ1 H2.size) ν2 ⟨tw2.symm, rel2.szl, tg1, th2, by omega, hl⟩
set_option maxHeartbeats 1000000 in
theorem lc_11 {p : Program} {l : Launch} {e : Env} {s : State} {m : MethodId} {below : List Frame} {meth : Method} {c : Code} {H : Heap} {locs : List Loc} {cells slots : Nat} {Q : State → Prop} {ls : Array Slot} {D : va_G} {E : Nat → ClassId} {tU b L g h k : Nat} {xs : Nat → Int32} {μ ν : XMem} (S : LSc p s c b L xs) (C : Cx p s m #[Value.ref b] c code 4 RL D E (fun q => s.heap.size ≤ q) tU) (I : LI D E s b g h μ ν H locs ls k) (hk : 6 * k + 6 ≤ L) (h1 : cells + 4 ≤ 600000) (h2 : slots + 202 ≤ 7302250)
    (kk : ∀ (H' : Heap) (locs' : List Loc) (μ' ν' : XMem), LI D E s b g h μ' ν' H' locs' ls k → W p l e room_1 s m #[Value.ref b] below meth c H' locs' (cells + 4) (slots + 202) Q (F0 m 1604 ls [])) :
    W p l e room_1 s m #[Value.ref b] below meth c H locs cells slots Q (F0 m 559 ls []) := by
  obtain ⟨tw, r, tg, th, hz, hl⟩ := I
  have hx := S.1
  have hb := S.2.1
  obtain ⟨r0, μ1, -, oc, -, -⟩ := op_told r tw.1.wty tg (by have := tw.1.1; omega) (xs (6 * k + 1))
  refine lv_aload_n hx hb dL_law_559 rfl (lv_at hl 1 rfl) ?_
  refine ls_arg S tw hl hk (j := 1) (by omega) rfl dL_law_560 dL_law_561 dL_law_562 dL_law_563 dL_law_564 ?_
  refine lw_callV (As := [.int (xs (6 * k + 1))]) (rest := []) C hl.1 tw cb_L_61 cv_X9_told (k_X9_told rfl tg oc) tg rfl rfl ⟨by decide, by decide⟩ ⟨by show cells + 4 ≤ 600000; omega, by show slots + 202 ≤ 7302250; omega⟩ rfl (Nat.le_of_ble_eq_true rfl) dL_law_565 (fun t => t.1) (fun H1 locs1 tw1 hz1 tp1 => ?_)
  have tg1 : mT μ1 g = some (.inl 9) := (tp1.1).1 g _ tg
  obtain ⟨r1, μ2, ν2, oc2, om2, rel2⟩ := op_told (r.szr (z := H1.size)) tw.1.wty tg (by have := tw.1.1; omega) (xs (6 * k + 1))
  obtain ⟨rfl, rfl⟩ : r0 = r1 ∧ μ1 = μ2 := by
    rw [oc] at oc2
    cases oc2
    exact ⟨rfl, rfl⟩
  refine lv_aload_n hx hb dL_law_568 rfl (lv_at hl 2 rfl) ?_
  refine ls_arg S tw1 hl hk (j := 1) (by omega) rfl dL_law_569 dL_law_570 dL_law_571 dL_law_572 dL_law_573 ?_
  refine lw_callV (As := [.int (xs (6 * k + 1))]) (rest := [.int r0]) C hl.1 tw1.symm cb_L_64 cv_X10_told (k_X10_told rfl th om2) th rfl rfl ⟨by decide, by decide⟩ ⟨by show cells + 4 + 0 ≤ 600000; omega, by show slots + 202 + 0 ≤ 7302250; omega⟩ rfl (Nat.le_of_ble_eq_true rfl) dL_law_574 (fun t => XA.of t.1) (fun H2 locs2 tw2 hz2 tp2 => ?_)
  have th2 : mT ν2 h = some (.inl 10) := (XA.of tp2.1).1 h _ th
  refine lv_icmp_eq (tgt := 1604) hx hb dL_law_577 (by decide) (fun _ => ?_) (fun q => absurd rfl q)
  refine W.widen (k := cells + 4) (n := slots + 202) (by omega) (by omega) ?_
  exact kk H2 locs2 (sZ μ1 H2.size) ν2 ⟨tw2.symm, rel2.szl, tg1, th2, by omega, hl⟩
set_option maxHeartbeats 1000000 in
theorem lc_12 {p : Program} {l : Launch} {e : Env} {s : State} {m : MethodId} {below : List Frame} {meth : Method} {c : Code} {H : Heap} {locs : List Loc} {cells slots : Nat} {Q : State → Prop} {ls : Array Slot} {D : va_G} {E : Nat → ClassId} {tU b L g h k : Nat} {xs : Nat → Int32} {μ ν : XMem} (S : LSc p s c b L xs) (C : Cx p s m #[Value.ref b] c code 4 RL D E (fun q => s.heap.size ≤ q) tU) (I : LI D E s b g h μ ν H locs ls k) (hk : 6 * k + 6 ≤ L) (h1 : cells + 4 ≤ 600000) (h2 : slots + 202 ≤ 7302250)
    (kk : ∀ (H' : Heap) (locs' : List Loc) (μ' ν' : XMem), LI D E s b g h μ' ν' H' locs' ls k → W p l e room_1 s m #[Value.ref b] below meth c H' locs' (cells + 4) (slots + 202) Q (F0 m 1604 ls [])) :
    W p l e room_1 s m #[Value.ref b] below meth c H locs cells slots Q (F0 m 582 ls []) := by
  obtain ⟨tw, r, tg, th, hz, hl⟩ := I
  have hx := S.1
  have hb := S.2.1
  obtain ⟨r0, μ1, -, oc, -, -⟩ := op_force r (xs (6 * k + 1))
  refine lv_aload_n hx hb dL_law_582 rfl (lv_at hl 1 rfl) ?_
  refine ls_arg S tw hl hk (j := 1) (by omega) rfl dL_law_583 dL_law_584 dL_law_585 dL_law_586 dL_law_587 ?_
  refine lw_callV (As := [.int (xs (6 * k + 1))]) (rest := []) C hl.1 tw cb_L_65 cv_X9_force (k_X9_force rfl tg oc) tg rfl rfl ⟨by decide, by decide⟩ ⟨by show cells + 0 ≤ 600000; omega, by show slots + 0 ≤ 7302250; omega⟩ rfl (Nat.le_of_ble_eq_true rfl) dL_law_588 (fun t => XA.of t.1) (fun H1 locs1 tw1 hz1 tp1 => ?_)
  have tg1 : mT μ1 g = some (.inl 9) := (XA.of tp1.1).1 g _ tg
  obtain ⟨r1, μ2, ν2, oc2, om2, rel2⟩ := op_force (r.szr (z := H1.size)) (xs (6 * k + 1))
  obtain ⟨rfl, rfl⟩ : r0 = r1 ∧ μ1 = μ2 := by
    rw [oc] at oc2
    cases oc2
    exact ⟨rfl, rfl⟩
  refine lv_aload_n hx hb dL_law_591 rfl (lv_at hl 2 rfl) ?_
  refine ls_arg S tw1 hl hk (j := 1) (by omega) rfl dL_law_592 dL_law_593 dL_law_594 dL_law_595 dL_law_596 ?_
  refine lw_callV (As := [.int (xs (6 * k + 1))]) (rest := [.int r0]) C hl.1 tw1.symm cb_L_68 cv_X10_force (k_X10_force rfl th om2) th rfl rfl ⟨by decide, by decide⟩ ⟨by show cells + 0 + 0 ≤ 600000; omega, by show slots + 0 + 0 ≤ 7302250; omega⟩ rfl (Nat.le_of_ble_eq_true rfl) dL_law_597 (fun t => XA.of t.1) (fun H2 locs2 tw2 hz2 tp2 => ?_)
  have th2 : mT ν2 h = some (.inl 10) := (XA.of tp2.1).1 h _ th
  refine lv_icmp_eq (tgt := 1604) hx hb dL_law_600 (by decide) (fun _ => ?_) (fun q => absurd rfl q)
  refine W.widen (k := cells + 4) (n := slots + 202) (by omega) (by omega) ?_
  exact kk H2 locs2 (sZ μ1 H2.size) ν2 ⟨tw2.symm, rel2.szl, tg1, th2, by omega, hl⟩
set_option maxHeartbeats 1000000 in
theorem lc_13 {p : Program} {l : Launch} {e : Env} {s : State} {m : MethodId} {below : List Frame} {meth : Method} {c : Code} {H : Heap} {locs : List Loc} {cells slots : Nat} {Q : State → Prop} {ls : Array Slot} {D : va_G} {E : Nat → ClassId} {tU b L g h k : Nat} {xs : Nat → Int32} {μ ν : XMem} (S : LSc p s c b L xs) (C : Cx p s m #[Value.ref b] c code 4 RL D E (fun q => s.heap.size ≤ q) tU) (I : LI D E s b g h μ ν H locs ls k) (hk : 6 * k + 6 ≤ L) (h1 : cells + 4 ≤ 600000) (h2 : slots + 202 ≤ 7302250)
    (kk : ∀ (H' : Heap) (locs' : List Loc) (μ' ν' : XMem), LI D E s b g h μ' ν' H' locs' ls k → W p l e room_1 s m #[Value.ref b] below meth c H' locs' (cells + 4) (slots + 202) Q (F0 m 1604 ls [])) :
    W p l e room_1 s m #[Value.ref b] below meth c H locs cells slots Q (F0 m 605 ls []) := by
  obtain ⟨tw, r, tg, th, hz, hl⟩ := I
  have hx := S.1
  have hb := S.2.1
  obtain ⟨r0, μ1, -, oc, -, -⟩ := op_tells r (xs (6 * k + 1)) (xs (6 * k + 2))
  refine lv_aload_n hx hb dL_law_605 rfl (lv_at hl 1 rfl) ?_
  refine ls_arg S tw hl hk (j := 1) (by omega) rfl dL_law_606 dL_law_607 dL_law_608 dL_law_609 dL_law_610 ?_
  refine ls_arg S tw hl hk (j := 2) (by omega) rfl dL_law_611 dL_law_612 dL_law_613 dL_law_614 dL_law_615 ?_
  refine lw_callV (As := [.int (xs (6 * k + 1)), .int (xs (6 * k + 2))]) (rest := []) C hl.1 tw cb_L_69 cv_X9_tells (k_X9_tells rfl tg oc) tg rfl rfl ⟨by decide, by decide⟩ ⟨by show cells + 0 ≤ 600000; omega, by show slots + 0 ≤ 7302250; omega⟩ rfl (Nat.le_of_ble_eq_true rfl) dL_law_616 (fun t => XA.of t.1) (fun H1 locs1 tw1 hz1 tp1 => ?_)
  have tg1 : mT μ1 g = some (.inl 9) := (XA.of tp1.1).1 g _ tg
  obtain ⟨r1, μ2, ν2, oc2, om2, rel2⟩ := op_tells (r.szr (z := H1.size)) (xs (6 * k + 1)) (xs (6 * k + 2))
  obtain ⟨rfl, rfl⟩ : r0 = r1 ∧ μ1 = μ2 := by
    rw [oc] at oc2
    cases oc2
    exact ⟨rfl, rfl⟩
  refine lv_aload_n hx hb dL_law_619 rfl (lv_at hl 2 rfl) ?_
  refine ls_arg S tw1 hl hk (j := 1) (by omega) rfl dL_law_620 dL_law_621 dL_law_622 dL_law_623 dL_law_624 ?_
  refine ls_arg S tw1 hl hk (j := 2) (by omega) rfl dL_law_625 dL_law_626 dL_law_627 dL_law_628 dL_law_629 ?_
  refine lw_callV (As := [.int (xs (6 * k + 1)), .int (xs (6 * k + 2))]) (rest := [.int r0]) C hl.1 tw1.symm cb_L_72 cv_X10_tells (k_X10_tells rfl th om2) th rfl rfl ⟨by decide, by decide⟩ ⟨by show cells + 0 + 0 ≤ 600000; omega, by show slots + 0 + 0 ≤ 7302250; omega⟩ rfl (Nat.le_of_ble_eq_true rfl) dL_law_630 (fun t => XA.of t.1) (fun H2 locs2 tw2 hz2 tp2 => ?_)
  have th2 : mT ν2 h = some (.inl 10) := (XA.of tp2.1).1 h _ th
  refine lv_icmp_eq (tgt := 1604) hx hb dL_law_633 (by decide) (fun _ => ?_) (fun q => absurd rfl q)
  refine W.widen (k := cells + 4) (n := slots + 202) (by omega) (by omega) ?_
  exact kk H2 locs2 (sZ μ1 H2.size) ν2 ⟨tw2.symm, rel2.szl, tg1, th2, by omega, hl⟩
set_option maxHeartbeats 1000000 in
theorem lc_14 {p : Program} {l : Launch} {e : Env} {s : State} {m : MethodId} {below : List Frame} {meth : Method} {c : Code} {H : Heap} {locs : List Loc} {cells slots : Nat} {Q : State → Prop} {ls : Array Slot} {D : va_G} {E : Nat → ClassId} {tU b L g h k : Nat} {xs : Nat → Int32} {μ ν : XMem} (S : LSc p s c b L xs) (C : Cx p s m #[Value.ref b] c code 4 RL D E (fun q => s.heap.size ≤ q) tU) (I : LI D E s b g h μ ν H locs ls k) (hk : 6 * k + 6 ≤ L) (h1 : cells + 4 ≤ 600000) (h2 : slots + 202 ≤ 7302250)
    (kk : ∀ (H' : Heap) (locs' : List Loc) (μ' ν' : XMem), LI D E s b g h μ' ν' H' locs' ls k → W p l e room_1 s m #[Value.ref b] below meth c H' locs' (cells + 4) (slots + 202) Q (F0 m 1604 ls [])) :
    W p l e room_1 s m #[Value.ref b] below meth c H locs cells slots Q (F0 m 638 ls []) := by
  obtain ⟨tw, r, tg, th, hz, hl⟩ := I
  have hx := S.1
  have hb := S.2.1
  obtain ⟨r0, μ1, -, oc, -, -⟩ := op_says r (xs (6 * k + 1)) (xs (6 * k + 2))
  refine lv_aload_n hx hb dL_law_638 rfl (lv_at hl 1 rfl) ?_
  refine ls_arg S tw hl hk (j := 1) (by omega) rfl dL_law_639 dL_law_640 dL_law_641 dL_law_642 dL_law_643 ?_
  refine ls_arg S tw hl hk (j := 2) (by omega) rfl dL_law_644 dL_law_645 dL_law_646 dL_law_647 dL_law_648 ?_
  refine lw_callV (As := [.int (xs (6 * k + 1)), .int (xs (6 * k + 2))]) (rest := []) C hl.1 tw cb_L_73 cv_X9_says (k_X9_says rfl tg oc) tg rfl rfl ⟨by decide, by decide⟩ ⟨by show cells + 0 ≤ 600000; omega, by show slots + 0 ≤ 7302250; omega⟩ rfl (Nat.le_of_ble_eq_true rfl) dL_law_649 (fun t => XA.of t.1) (fun H1 locs1 tw1 hz1 tp1 => ?_)
  have tg1 : mT μ1 g = some (.inl 9) := (XA.of tp1.1).1 g _ tg
  obtain ⟨r1, μ2, ν2, oc2, om2, rel2⟩ := op_says (r.szr (z := H1.size)) (xs (6 * k + 1)) (xs (6 * k + 2))
  obtain ⟨rfl, rfl⟩ : r0 = r1 ∧ μ1 = μ2 := by
    rw [oc] at oc2
    cases oc2
    exact ⟨rfl, rfl⟩
  refine lv_aload_n hx hb dL_law_652 rfl (lv_at hl 2 rfl) ?_
  refine ls_arg S tw1 hl hk (j := 1) (by omega) rfl dL_law_653 dL_law_654 dL_law_655 dL_law_656 dL_law_657 ?_
  refine ls_arg S tw1 hl hk (j := 2) (by omega) rfl dL_law_658 dL_law_659 dL_law_660 dL_law_661 dL_law_662 ?_
  refine lw_callV (As := [.int (xs (6 * k + 1)), .int (xs (6 * k + 2))]) (rest := [.int r0]) C hl.1 tw1.symm cb_L_76 cv_X10_says (k_X10_says rfl th om2) th rfl rfl ⟨by decide, by decide⟩ ⟨by show cells + 0 + 0 ≤ 600000; omega, by show slots + 0 + 0 ≤ 7302250; omega⟩ rfl (Nat.le_of_ble_eq_true rfl) dL_law_663 (fun t => XA.of t.1) (fun H2 locs2 tw2 hz2 tp2 => ?_)
  have th2 : mT ν2 h = some (.inl 10) := (XA.of tp2.1).1 h _ th
  refine lv_icmp_eq (tgt := 1604) hx hb dL_law_666 (by decide) (fun _ => ?_) (fun q => absurd rfl q)
  refine W.widen (k := cells + 4) (n := slots + 202) (by omega) (by omega) ?_
  exact kk H2 locs2 (sZ μ1 H2.size) ν2 ⟨tw2.symm, rel2.szl, tg1, th2, by omega, hl⟩
set_option maxHeartbeats 1000000 in
theorem lc_15 {p : Program} {l : Launch} {e : Env} {s : State} {m : MethodId} {below : List Frame} {meth : Method} {c : Code} {H : Heap} {locs : List Loc} {cells slots : Nat} {Q : State → Prop} {ls : Array Slot} {D : va_G} {E : Nat → ClassId} {tU b L g h k : Nat} {xs : Nat → Int32} {μ ν : XMem} (S : LSc p s c b L xs) (C : Cx p s m #[Value.ref b] c code 4 RL D E (fun q => s.heap.size ≤ q) tU) (I : LI D E s b g h μ ν H locs ls k) (hk : 6 * k + 6 ≤ L) (h1 : cells + 4 ≤ 600000) (h2 : slots + 202 ≤ 7302250)
    (kk : ∀ (H' : Heap) (locs' : List Loc) (μ' ν' : XMem), LI D E s b g h μ' ν' H' locs' ls k → W p l e room_1 s m #[Value.ref b] below meth c H' locs' (cells + 4) (slots + 202) Q (F0 m 1604 ls [])) :
    W p l e room_1 s m #[Value.ref b] below meth c H locs cells slots Q (F0 m 671 ls []) := by
  obtain ⟨tw, r, tg, th, hz, hl⟩ := I
  have hx := S.1
  have hb := S.2.1
  obtain ⟨r0, μ1, -, oc, -, -⟩ := op_house r (xs (6 * k + 1)) (xs (6 * k + 2))
  refine lv_aload_n hx hb dL_law_671 rfl (lv_at hl 1 rfl) ?_
  refine ls_arg S tw hl hk (j := 1) (by omega) rfl dL_law_672 dL_law_673 dL_law_674 dL_law_675 dL_law_676 ?_
  refine ls_arg S tw hl hk (j := 2) (by omega) rfl dL_law_677 dL_law_678 dL_law_679 dL_law_680 dL_law_681 ?_
  refine lw_callV (As := [.int (xs (6 * k + 1)), .int (xs (6 * k + 2))]) (rest := []) C hl.1 tw cb_L_77 cv_X9_house (k_X9_house rfl tg oc) tg rfl rfl ⟨by decide, by decide⟩ ⟨by show cells + 0 ≤ 600000; omega, by show slots + 0 ≤ 7302250; omega⟩ rfl (Nat.le_of_ble_eq_true rfl) dL_law_682 (fun t => XA.of t.1) (fun H1 locs1 tw1 hz1 tp1 => ?_)
  have tg1 : mT μ1 g = some (.inl 9) := (XA.of tp1.1).1 g _ tg
  obtain ⟨r1, μ2, ν2, oc2, om2, rel2⟩ := op_house (r.szr (z := H1.size)) (xs (6 * k + 1)) (xs (6 * k + 2))
  obtain ⟨rfl, rfl⟩ : r0 = r1 ∧ μ1 = μ2 := by
    rw [oc] at oc2
    cases oc2
    exact ⟨rfl, rfl⟩
  refine lv_aload_n hx hb dL_law_685 rfl (lv_at hl 2 rfl) ?_
  refine ls_arg S tw1 hl hk (j := 1) (by omega) rfl dL_law_686 dL_law_687 dL_law_688 dL_law_689 dL_law_690 ?_
  refine ls_arg S tw1 hl hk (j := 2) (by omega) rfl dL_law_691 dL_law_692 dL_law_693 dL_law_694 dL_law_695 ?_
  refine lw_callV (As := [.int (xs (6 * k + 1)), .int (xs (6 * k + 2))]) (rest := [.int r0]) C hl.1 tw1.symm cb_L_80 cv_X10_house (k_X10_house rfl th om2) th rfl rfl ⟨by decide, by decide⟩ ⟨by show cells + 0 + 0 ≤ 600000; omega, by show slots + 0 + 0 ≤ 7302250; omega⟩ rfl (Nat.le_of_ble_eq_true rfl) dL_law_696 (fun t => XA.of t.1) (fun H2 locs2 tw2 hz2 tp2 => ?_)
  have th2 : mT ν2 h = some (.inl 10) := (XA.of tp2.1).1 h _ th
  refine lv_icmp_eq (tgt := 1604) hx hb dL_law_699 (by decide) (fun _ => ?_) (fun q => absurd rfl q)
  refine W.widen (k := cells + 4) (n := slots + 202) (by omega) (by omega) ?_
  exact kk H2 locs2 (sZ μ1 H2.size) ν2 ⟨tw2.symm, rel2.szl, tg1, th2, by omega, hl⟩
set_option maxHeartbeats 1000000 in
theorem lc_16 {p : Program} {l : Launch} {e : Env} {s : State} {m : MethodId} {below : List Frame} {meth : Method} {c : Code} {H : Heap} {locs : List Loc} {cells slots : Nat} {Q : State → Prop} {ls : Array Slot} {D : va_G} {E : Nat → ClassId} {tU b L g h k : Nat} {xs : Nat → Int32} {μ ν : XMem} (S : LSc p s c b L xs) (C : Cx p s m #[Value.ref b] c code 4 RL D E (fun q => s.heap.size ≤ q) tU) (I : LI D E s b g h μ ν H locs ls k) (hk : 6 * k + 6 ≤ L) (h1 : cells + 4 ≤ 600000) (h2 : slots + 202 ≤ 7302250)
    (kk : ∀ (H' : Heap) (locs' : List Loc) (μ' ν' : XMem), LI D E s b g h μ' ν' H' locs' ls k → W p l e room_1 s m #[Value.ref b] below meth c H' locs' (cells + 4) (slots + 202) Q (F0 m 1604 ls [])) :
    W p l e room_1 s m #[Value.ref b] below meth c H locs cells slots Q (F0 m 704 ls []) := by
  obtain ⟨tw, r, tg, th, hz, hl⟩ := I
  have hx := S.1
  have hb := S.2.1
  obtain ⟨r0, μ1, -, oc, -, -⟩ := op_houseOf r (xs (6 * k + 1)) (xs (6 * k + 2))
  refine lv_aload_n hx hb dL_law_704 rfl (lv_at hl 1 rfl) ?_
  refine ls_arg S tw hl hk (j := 1) (by omega) rfl dL_law_705 dL_law_706 dL_law_707 dL_law_708 dL_law_709 ?_
  refine ls_arg S tw hl hk (j := 2) (by omega) rfl dL_law_710 dL_law_711 dL_law_712 dL_law_713 dL_law_714 ?_
  refine lw_callV (As := [.int (xs (6 * k + 1)), .int (xs (6 * k + 2))]) (rest := []) C hl.1 tw cb_L_81 cv_X9_houseOf (k_X9_houseOf rfl tg oc) tg rfl rfl ⟨by decide, by decide⟩ ⟨by show cells + 0 ≤ 600000; omega, by show slots + 0 ≤ 7302250; omega⟩ rfl (Nat.le_of_ble_eq_true rfl) dL_law_715 (fun t => XA.of t.1) (fun H1 locs1 tw1 hz1 tp1 => ?_)
  have tg1 : mT μ1 g = some (.inl 9) := (XA.of tp1.1).1 g _ tg
  obtain ⟨r1, μ2, ν2, oc2, om2, rel2⟩ := op_houseOf (r.szr (z := H1.size)) (xs (6 * k + 1)) (xs (6 * k + 2))
  obtain ⟨rfl, rfl⟩ : r0 = r1 ∧ μ1 = μ2 := by
    rw [oc] at oc2
    cases oc2
    exact ⟨rfl, rfl⟩
  refine lv_aload_n hx hb dL_law_718 rfl (lv_at hl 2 rfl) ?_
  refine ls_arg S tw1 hl hk (j := 1) (by omega) rfl dL_law_719 dL_law_720 dL_law_721 dL_law_722 dL_law_723 ?_
  refine ls_arg S tw1 hl hk (j := 2) (by omega) rfl dL_law_724 dL_law_725 dL_law_726 dL_law_727 dL_law_728 ?_
  refine lw_callV (As := [.int (xs (6 * k + 1)), .int (xs (6 * k + 2))]) (rest := [.long r0]) C hl.1 tw1.symm cb_L_85 cv_X10_houseOf (k_X10_houseOf rfl th om2) th rfl rfl ⟨by decide, by decide⟩ ⟨by show cells + 0 + 0 ≤ 600000; omega, by show slots + 0 + 0 ≤ 7302250; omega⟩ rfl (Nat.le_of_ble_eq_true rfl) dL_law_729 (fun t => XA.of t.1) (fun H2 locs2 tw2 hz2 tp2 => ?_)
  have th2 : mT ν2 h = some (.inl 10) := (XA.of tp2.1).1 h _ th
  refine W.lcmp hx hb dL_law_732 ?_
  refine lv_if_eq (tgt := 1604) hx hb dL_law_733 (by decide) (fun _ => ?_) (fun q => absurd (lc_e r0) q)
  refine W.widen (k := cells + 4) (n := slots + 202) (by omega) (by omega) ?_
  exact kk H2 locs2 (sZ μ1 H2.size) ν2 ⟨tw2.symm, rel2.szl, tg1, th2, by omega, hl⟩
set_option maxHeartbeats 1000000 in
theorem lc_17 {p : Program} {l : Launch} {e : Env} {s : State} {m : MethodId} {below : List Frame} {meth : Method} {c : Code} {H : Heap} {locs : List Loc} {cells slots : Nat} {Q : State → Prop} {ls : Array Slot} {D : va_G} {E : Nat → ClassId} {tU b L g h k : Nat} {xs : Nat → Int32} {μ ν : XMem} (S : LSc p s c b L xs) (C : Cx p s m #[Value.ref b] c code 4 RL D E (fun q => s.heap.size ≤ q) tU) (I : LI D E s b g h μ ν H locs ls k) (hk : 6 * k + 6 ≤ L) (h1 : cells + 4 ≤ 600000) (h2 : slots + 202 ≤ 7302250)
    (kk : ∀ (H' : Heap) (locs' : List Loc) (μ' ν' : XMem), LI D E s b g h μ' ν' H' locs' ls k → W p l e room_1 s m #[Value.ref b] below meth c H' locs' (cells + 4) (slots + 202) Q (F0 m 1604 ls [])) :
    W p l e room_1 s m #[Value.ref b] below meth c H locs cells slots Q (F0 m 738 ls []) := by
  obtain ⟨tw, r, tg, th, hz, hl⟩ := I
  have hx := S.1
  have hb := S.2.1
  obtain ⟨r0, μ1, -, oc, -, -⟩ := op_since r (xs (6 * k + 1)) (xs (6 * k + 2))
  refine lv_aload_n hx hb dL_law_738 rfl (lv_at hl 1 rfl) ?_
  refine ls_arg S tw hl hk (j := 1) (by omega) rfl dL_law_739 dL_law_740 dL_law_741 dL_law_742 dL_law_743 ?_
  refine ls_arg S tw hl hk (j := 2) (by omega) rfl dL_law_744 dL_law_745 dL_law_746 dL_law_747 dL_law_748 ?_
  refine lw_callV (As := [.int (xs (6 * k + 1)), .int (xs (6 * k + 2))]) (rest := []) C hl.1 tw cb_L_86 cv_X9_since (k_X9_since rfl tg oc) tg rfl rfl ⟨by decide, by decide⟩ ⟨by show cells + 0 ≤ 600000; omega, by show slots + 0 ≤ 7302250; omega⟩ rfl (Nat.le_of_ble_eq_true rfl) dL_law_749 (fun t => XA.of t.1) (fun H1 locs1 tw1 hz1 tp1 => ?_)
  have tg1 : mT μ1 g = some (.inl 9) := (XA.of tp1.1).1 g _ tg
  obtain ⟨r1, μ2, ν2, oc2, om2, rel2⟩ := op_since (r.szr (z := H1.size)) (xs (6 * k + 1)) (xs (6 * k + 2))
  obtain ⟨rfl, rfl⟩ : r0 = r1 ∧ μ1 = μ2 := by
    rw [oc] at oc2
    cases oc2
    exact ⟨rfl, rfl⟩
  refine lv_aload_n hx hb dL_law_752 rfl (lv_at hl 2 rfl) ?_
  refine ls_arg S tw1 hl hk (j := 1) (by omega) rfl dL_law_753 dL_law_754 dL_law_755 dL_law_756 dL_law_757 ?_
  refine ls_arg S tw1 hl hk (j := 2) (by omega) rfl dL_law_758 dL_law_759 dL_law_760 dL_law_761 dL_law_762 ?_
  refine lw_callV (As := [.int (xs (6 * k + 1)), .int (xs (6 * k + 2))]) (rest := [.int r0]) C hl.1 tw1.symm cb_L_89 cv_X10_since (k_X10_since rfl th om2) th rfl rfl ⟨by decide, by decide⟩ ⟨by show cells + 0 + 0 ≤ 600000; omega, by show slots + 0 + 0 ≤ 7302250; omega⟩ rfl (Nat.le_of_ble_eq_true rfl) dL_law_763 (fun t => XA.of t.1) (fun H2 locs2 tw2 hz2 tp2 => ?_)
  have th2 : mT ν2 h = some (.inl 10) := (XA.of tp2.1).1 h _ th
  refine lv_icmp_eq (tgt := 1604) hx hb dL_law_766 (by decide) (fun _ => ?_) (fun q => absurd rfl q)
  refine W.widen (k := cells + 4) (n := slots + 202) (by omega) (by omega) ?_
  exact kk H2 locs2 (sZ μ1 H2.size) ν2 ⟨tw2.symm, rel2.szl, tg1, th2, by omega, hl⟩
set_option maxHeartbeats 1000000 in
theorem lc_18 {p : Program} {l : Launch} {e : Env} {s : State} {m : MethodId} {below : List Frame} {meth : Method} {c : Code} {H : Heap} {locs : List Loc} {cells slots : Nat} {Q : State → Prop} {ls : Array Slot} {D : va_G} {E : Nat → ClassId} {tU b L g h k : Nat} {xs : Nat → Int32} {μ ν : XMem} (S : LSc p s c b L xs) (C : Cx p s m #[Value.ref b] c code 4 RL D E (fun q => s.heap.size ≤ q) tU) (I : LI D E s b g h μ ν H locs ls k) (hk : 6 * k + 6 ≤ L) (h1 : cells + 4 ≤ 600000) (h2 : slots + 202 ≤ 7302250)
    (kk : ∀ (H' : Heap) (locs' : List Loc) (μ' ν' : XMem), LI D E s b g h μ' ν' H' locs' ls k → W p l e room_1 s m #[Value.ref b] below meth c H' locs' (cells + 4) (slots + 202) Q (F0 m 1604 ls [])) :
    W p l e room_1 s m #[Value.ref b] below meth c H locs cells slots Q (F0 m 771 ls []) := by
  obtain ⟨tw, r, tg, th, hz, hl⟩ := I
  have hx := S.1
  have hb := S.2.1
  obtain ⟨r0, μ1, -, oc, -, -⟩ := op_order r (xs (6 * k + 1))
  refine lv_aload_n hx hb dL_law_771 rfl (lv_at hl 1 rfl) ?_
  refine ls_arg S tw hl hk (j := 1) (by omega) rfl dL_law_772 dL_law_773 dL_law_774 dL_law_775 dL_law_776 ?_
  refine lw_callV (As := [.int (xs (6 * k + 1))]) (rest := []) C hl.1 tw cb_L_90 cv_X9_order (k_X9_order rfl tg oc) tg rfl rfl ⟨by decide, by decide⟩ ⟨by show cells + 0 ≤ 600000; omega, by show slots + 0 ≤ 7302250; omega⟩ rfl (Nat.le_of_ble_eq_true rfl) dL_law_777 (fun t => XA.of t.1) (fun H1 locs1 tw1 hz1 tp1 => ?_)
  have tg1 : mT μ1 g = some (.inl 9) := (XA.of tp1.1).1 g _ tg
  obtain ⟨r1, μ2, ν2, oc2, om2, rel2⟩ := op_order (r.szr (z := H1.size)) (xs (6 * k + 1))
  obtain ⟨rfl, rfl⟩ : r0 = r1 ∧ μ1 = μ2 := by
    rw [oc] at oc2
    cases oc2
    exact ⟨rfl, rfl⟩
  refine lv_aload_n hx hb dL_law_780 rfl (lv_at hl 2 rfl) ?_
  refine ls_arg S tw1 hl hk (j := 1) (by omega) rfl dL_law_781 dL_law_782 dL_law_783 dL_law_784 dL_law_785 ?_
  refine lw_callV (As := [.int (xs (6 * k + 1))]) (rest := [.int r0]) C hl.1 tw1.symm cb_L_93 cv_X10_order (k_X10_order rfl th om2) th rfl rfl ⟨by decide, by decide⟩ ⟨by show cells + 0 + 0 ≤ 600000; omega, by show slots + 0 + 0 ≤ 7302250; omega⟩ rfl (Nat.le_of_ble_eq_true rfl) dL_law_786 (fun t => XA.of t.1) (fun H2 locs2 tw2 hz2 tp2 => ?_)
  have th2 : mT ν2 h = some (.inl 10) := (XA.of tp2.1).1 h _ th
  refine lv_icmp_eq (tgt := 1604) hx hb dL_law_789 (by decide) (fun _ => ?_) (fun q => absurd rfl q)
  refine W.widen (k := cells + 4) (n := slots + 202) (by omega) (by omega) ?_
  exact kk H2 locs2 (sZ μ1 H2.size) ν2 ⟨tw2.symm, rel2.szl, tg1, th2, by omega, hl⟩
set_option maxHeartbeats 1000000 in
theorem lc_19 {p : Program} {l : Launch} {e : Env} {s : State} {m : MethodId} {below : List Frame} {meth : Method} {c : Code} {H : Heap} {locs : List Loc} {cells slots : Nat} {Q : State → Prop} {ls : Array Slot} {D : va_G} {E : Nat → ClassId} {tU b L g h k : Nat} {xs : Nat → Int32} {μ ν : XMem} (S : LSc p s c b L xs) (C : Cx p s m #[Value.ref b] c code 4 RL D E (fun q => s.heap.size ≤ q) tU) (I : LI D E s b g h μ ν H locs ls k) (hk : 6 * k + 6 ≤ L) (h1 : cells + 4 ≤ 600000) (h2 : slots + 202 ≤ 7302250)
    (kk : ∀ (H' : Heap) (locs' : List Loc) (μ' ν' : XMem), LI D E s b g h μ' ν' H' locs' ls k → W p l e room_1 s m #[Value.ref b] below meth c H' locs' (cells + 4) (slots + 202) Q (F0 m 1604 ls [])) :
    W p l e room_1 s m #[Value.ref b] below meth c H locs cells slots Q (F0 m 794 ls []) := by
  obtain ⟨tw, r, tg, th, hz, hl⟩ := I
  have hx := S.1
  have hb := S.2.1
  obtain ⟨r0, μ1, -, oc, -, -⟩ := op_saying r (xs (6 * k + 1))
  refine lv_aload_n hx hb dL_law_794 rfl (lv_at hl 1 rfl) ?_
  refine ls_arg S tw hl hk (j := 1) (by omega) rfl dL_law_795 dL_law_796 dL_law_797 dL_law_798 dL_law_799 ?_
  refine lw_callV (As := [.int (xs (6 * k + 1))]) (rest := []) C hl.1 tw cb_L_94 cv_X9_saying (k_X9_saying rfl tg oc) tg rfl rfl ⟨by decide, by decide⟩ ⟨by show cells + 0 ≤ 600000; omega, by show slots + 0 ≤ 7302250; omega⟩ rfl (Nat.le_of_ble_eq_true rfl) dL_law_800 (fun t => XA.of t.1) (fun H1 locs1 tw1 hz1 tp1 => ?_)
  have tg1 : mT μ1 g = some (.inl 9) := (XA.of tp1.1).1 g _ tg
  obtain ⟨r1, μ2, ν2, oc2, om2, rel2⟩ := op_saying (r.szr (z := H1.size)) (xs (6 * k + 1))
  obtain ⟨rfl, rfl⟩ : r0 = r1 ∧ μ1 = μ2 := by
    rw [oc] at oc2
    cases oc2
    exact ⟨rfl, rfl⟩
  refine lv_aload_n hx hb dL_law_803 rfl (lv_at hl 2 rfl) ?_
  refine ls_arg S tw1 hl hk (j := 1) (by omega) rfl dL_law_804 dL_law_805 dL_law_806 dL_law_807 dL_law_808 ?_
  refine lw_callV (As := [.int (xs (6 * k + 1))]) (rest := [.int r0]) C hl.1 tw1.symm cb_L_97 cv_X10_saying (k_X10_saying rfl th om2) th rfl rfl ⟨by decide, by decide⟩ ⟨by show cells + 0 + 0 ≤ 600000; omega, by show slots + 0 + 0 ≤ 7302250; omega⟩ rfl (Nat.le_of_ble_eq_true rfl) dL_law_809 (fun t => XA.of t.1) (fun H2 locs2 tw2 hz2 tp2 => ?_)
  have th2 : mT ν2 h = some (.inl 10) := (XA.of tp2.1).1 h _ th
  refine lv_icmp_eq (tgt := 1604) hx hb dL_law_812 (by decide) (fun _ => ?_) (fun q => absurd rfl q)
  refine W.widen (k := cells + 4) (n := slots + 202) (by omega) (by omega) ?_
  exact kk H2 locs2 (sZ μ1 H2.size) ν2 ⟨tw2.symm, rel2.szl, tg1, th2, by omega, hl⟩
set_option maxHeartbeats 1000000 in
theorem lc_20 {p : Program} {l : Launch} {e : Env} {s : State} {m : MethodId} {below : List Frame} {meth : Method} {c : Code} {H : Heap} {locs : List Loc} {cells slots : Nat} {Q : State → Prop} {ls : Array Slot} {D : va_G} {E : Nat → ClassId} {tU b L g h k : Nat} {xs : Nat → Int32} {μ ν : XMem} (S : LSc p s c b L xs) (C : Cx p s m #[Value.ref b] c code 4 RL D E (fun q => s.heap.size ≤ q) tU) (I : LI D E s b g h μ ν H locs ls k) (hk : 6 * k + 6 ≤ L) (h1 : cells + 4 ≤ 600000) (h2 : slots + 202 ≤ 7302250)
    (kk : ∀ (H' : Heap) (locs' : List Loc) (μ' ν' : XMem), LI D E s b g h μ' ν' H' locs' ls k → W p l e room_1 s m #[Value.ref b] below meth c H' locs' (cells + 4) (slots + 202) Q (F0 m 1604 ls [])) :
    W p l e room_1 s m #[Value.ref b] below meth c H locs cells slots Q (F0 m 817 ls []) := by
  obtain ⟨tw, r, tg, th, hz, hl⟩ := I
  have hx := S.1
  have hb := S.2.1
  obtain ⟨r0, μ1, -, oc, -, -⟩ := op_beside r (xs (6 * k + 1)) (xs (6 * k + 2))
  refine lv_aload_n hx hb dL_law_817 rfl (lv_at hl 1 rfl) ?_
  refine ls_arg S tw hl hk (j := 1) (by omega) rfl dL_law_818 dL_law_819 dL_law_820 dL_law_821 dL_law_822 ?_
  refine ls_arg S tw hl hk (j := 2) (by omega) rfl dL_law_823 dL_law_824 dL_law_825 dL_law_826 dL_law_827 ?_
  refine lw_callV (As := [.int (xs (6 * k + 1)), .int (xs (6 * k + 2))]) (rest := []) C hl.1 tw cb_L_98 cv_X9_beside (k_X9_beside rfl tg oc) tg rfl rfl ⟨by decide, by decide⟩ ⟨by show cells + 0 ≤ 600000; omega, by show slots + 0 ≤ 7302250; omega⟩ rfl (Nat.le_of_ble_eq_true rfl) dL_law_828 (fun t => XA.of t.1) (fun H1 locs1 tw1 hz1 tp1 => ?_)
  have tg1 : mT μ1 g = some (.inl 9) := (XA.of tp1.1).1 g _ tg
  obtain ⟨r1, μ2, ν2, oc2, om2, rel2⟩ := op_beside (r.szr (z := H1.size)) (xs (6 * k + 1)) (xs (6 * k + 2))
  obtain ⟨rfl, rfl⟩ : r0 = r1 ∧ μ1 = μ2 := by
    rw [oc] at oc2
    cases oc2
    exact ⟨rfl, rfl⟩
  refine lv_aload_n hx hb dL_law_831 rfl (lv_at hl 2 rfl) ?_
  refine ls_arg S tw1 hl hk (j := 1) (by omega) rfl dL_law_832 dL_law_833 dL_law_834 dL_law_835 dL_law_836 ?_
  refine ls_arg S tw1 hl hk (j := 2) (by omega) rfl dL_law_837 dL_law_838 dL_law_839 dL_law_840 dL_law_841 ?_
  refine lw_callV (As := [.int (xs (6 * k + 1)), .int (xs (6 * k + 2))]) (rest := [.int r0]) C hl.1 tw1.symm cb_L_101 cv_X10_beside (k_X10_beside rfl th om2) th rfl rfl ⟨by decide, by decide⟩ ⟨by show cells + 0 + 0 ≤ 600000; omega, by show slots + 0 + 0 ≤ 7302250; omega⟩ rfl (Nat.le_of_ble_eq_true rfl) dL_law_842 (fun t => XA.of t.1) (fun H2 locs2 tw2 hz2 tp2 => ?_)
  have th2 : mT ν2 h = some (.inl 10) := (XA.of tp2.1).1 h _ th
  refine lv_icmp_eq (tgt := 1604) hx hb dL_law_845 (by decide) (fun _ => ?_) (fun q => absurd rfl q)
  refine W.widen (k := cells + 4) (n := slots + 202) (by omega) (by omega) ?_
  exact kk H2 locs2 (sZ μ1 H2.size) ν2 ⟨tw2.symm, rel2.szl, tg1, th2, by omega, hl⟩
set_option maxHeartbeats 1000000 in
theorem lc_21 {p : Program} {l : Launch} {e : Env} {s : State} {m : MethodId} {below : List Frame} {meth : Method} {c : Code} {H : Heap} {locs : List Loc} {cells slots : Nat} {Q : State → Prop} {ls : Array Slot} {D : va_G} {E : Nat → ClassId} {tU b L g h k : Nat} {xs : Nat → Int32} {μ ν : XMem} (S : LSc p s c b L xs) (C : Cx p s m #[Value.ref b] c code 4 RL D E (fun q => s.heap.size ≤ q) tU) (I : LI D E s b g h μ ν H locs ls k) (hk : 6 * k + 6 ≤ L) (h1 : cells + 4 ≤ 600000) (h2 : slots + 202 ≤ 7302250)
    (kk : ∀ (H' : Heap) (locs' : List Loc) (μ' ν' : XMem), LI D E s b g h μ' ν' H' locs' ls k → W p l e room_1 s m #[Value.ref b] below meth c H' locs' (cells + 4) (slots + 202) Q (F0 m 1604 ls [])) :
    W p l e room_1 s m #[Value.ref b] below meth c H locs cells slots Q (F0 m 850 ls []) := by
  obtain ⟨tw, r, tg, th, hz, hl⟩ := I
  have hx := S.1
  have hb := S.2.1
  obtain ⟨r0, μ1, -, oc, -, -⟩ := op_shared r (xs (6 * k + 1)) (xs (6 * k + 2))
  refine lv_aload_n hx hb dL_law_850 rfl (lv_at hl 1 rfl) ?_
  refine ls_arg S tw hl hk (j := 1) (by omega) rfl dL_law_851 dL_law_852 dL_law_853 dL_law_854 dL_law_855 ?_
  refine ls_arg S tw hl hk (j := 2) (by omega) rfl dL_law_856 dL_law_857 dL_law_858 dL_law_859 dL_law_860 ?_
  refine lw_callV (As := [.int (xs (6 * k + 1)), .int (xs (6 * k + 2))]) (rest := []) C hl.1 tw cb_L_102 cv_X9_shared (k_X9_shared rfl tg oc) tg rfl rfl ⟨by decide, by decide⟩ ⟨by show cells + 0 ≤ 600000; omega, by show slots + 0 ≤ 7302250; omega⟩ rfl (Nat.le_of_ble_eq_true rfl) dL_law_861 (fun t => XA.of t.1) (fun H1 locs1 tw1 hz1 tp1 => ?_)
  have tg1 : mT μ1 g = some (.inl 9) := (XA.of tp1.1).1 g _ tg
  obtain ⟨r1, μ2, ν2, oc2, om2, rel2⟩ := op_shared (r.szr (z := H1.size)) (xs (6 * k + 1)) (xs (6 * k + 2))
  obtain ⟨rfl, rfl⟩ : r0 = r1 ∧ μ1 = μ2 := by
    rw [oc] at oc2
    cases oc2
    exact ⟨rfl, rfl⟩
  refine lv_aload_n hx hb dL_law_864 rfl (lv_at hl 2 rfl) ?_
  refine ls_arg S tw1 hl hk (j := 1) (by omega) rfl dL_law_865 dL_law_866 dL_law_867 dL_law_868 dL_law_869 ?_
  refine ls_arg S tw1 hl hk (j := 2) (by omega) rfl dL_law_870 dL_law_871 dL_law_872 dL_law_873 dL_law_874 ?_
  refine lw_callV (As := [.int (xs (6 * k + 1)), .int (xs (6 * k + 2))]) (rest := [.int r0]) C hl.1 tw1.symm cb_L_105 cv_X10_shared (k_X10_shared rfl th om2) th rfl rfl ⟨by decide, by decide⟩ ⟨by show cells + 0 + 0 ≤ 600000; omega, by show slots + 0 + 0 ≤ 7302250; omega⟩ rfl (Nat.le_of_ble_eq_true rfl) dL_law_875 (fun t => XA.of t.1) (fun H2 locs2 tw2 hz2 tp2 => ?_)
  have th2 : mT ν2 h = some (.inl 10) := (XA.of tp2.1).1 h _ th
  refine lv_icmp_eq (tgt := 1604) hx hb dL_law_878 (by decide) (fun _ => ?_) (fun q => absurd rfl q)
  refine W.widen (k := cells + 4) (n := slots + 202) (by omega) (by omega) ?_
  exact kk H2 locs2 (sZ μ1 H2.size) ν2 ⟨tw2.symm, rel2.szl, tg1, th2, by omega, hl⟩
set_option maxHeartbeats 1000000 in
theorem lc_22 {p : Program} {l : Launch} {e : Env} {s : State} {m : MethodId} {below : List Frame} {meth : Method} {c : Code} {H : Heap} {locs : List Loc} {cells slots : Nat} {Q : State → Prop} {ls : Array Slot} {D : va_G} {E : Nat → ClassId} {tU b L g h k : Nat} {xs : Nat → Int32} {μ ν : XMem} (S : LSc p s c b L xs) (C : Cx p s m #[Value.ref b] c code 4 RL D E (fun q => s.heap.size ≤ q) tU) (I : LI D E s b g h μ ν H locs ls k) (hk : 6 * k + 6 ≤ L) (h1 : cells + 4 ≤ 600000) (h2 : slots + 202 ≤ 7302250)
    (kk : ∀ (H' : Heap) (locs' : List Loc) (μ' ν' : XMem), LI D E s b g h μ' ν' H' locs' ls k → W p l e room_1 s m #[Value.ref b] below meth c H' locs' (cells + 4) (slots + 202) Q (F0 m 1604 ls [])) :
    W p l e room_1 s m #[Value.ref b] below meth c H locs cells slots Q (F0 m 883 ls []) := by
  obtain ⟨tw, r, tg, th, hz, hl⟩ := I
  have hx := S.1
  have hb := S.2.1
  obtain ⟨r0, μ1, -, oc, -, -⟩ := op_line r (xs (6 * k + 1)) (xs (6 * k + 2))
  refine lv_aload_n hx hb dL_law_883 rfl (lv_at hl 1 rfl) ?_
  refine ls_arg S tw hl hk (j := 1) (by omega) rfl dL_law_884 dL_law_885 dL_law_886 dL_law_887 dL_law_888 ?_
  refine ls_arg S tw hl hk (j := 2) (by omega) rfl dL_law_889 dL_law_890 dL_law_891 dL_law_892 dL_law_893 ?_
  refine lw_callV (As := [.int (xs (6 * k + 1)), .int (xs (6 * k + 2))]) (rest := []) C hl.1 tw cb_L_106 cv_X9_line (k_X9_line rfl tg oc) tg rfl rfl ⟨by decide, by decide⟩ ⟨by show cells + 0 ≤ 600000; omega, by show slots + 0 ≤ 7302250; omega⟩ rfl (Nat.le_of_ble_eq_true rfl) dL_law_894 (fun t => XA.of t.1) (fun H1 locs1 tw1 hz1 tp1 => ?_)
  have tg1 : mT μ1 g = some (.inl 9) := (XA.of tp1.1).1 g _ tg
  obtain ⟨r1, μ2, ν2, oc2, om2, rel2⟩ := op_line (r.szr (z := H1.size)) (xs (6 * k + 1)) (xs (6 * k + 2))
  obtain ⟨rfl, rfl⟩ : r0 = r1 ∧ μ1 = μ2 := by
    rw [oc] at oc2
    cases oc2
    exact ⟨rfl, rfl⟩
  refine lv_aload_n hx hb dL_law_897 rfl (lv_at hl 2 rfl) ?_
  refine ls_arg S tw1 hl hk (j := 1) (by omega) rfl dL_law_898 dL_law_899 dL_law_900 dL_law_901 dL_law_902 ?_
  refine ls_arg S tw1 hl hk (j := 2) (by omega) rfl dL_law_903 dL_law_904 dL_law_905 dL_law_906 dL_law_907 ?_
  refine lw_callV (As := [.int (xs (6 * k + 1)), .int (xs (6 * k + 2))]) (rest := [.int r0]) C hl.1 tw1.symm cb_L_109 cv_X10_line (k_X10_line rfl th om2) th rfl rfl ⟨by decide, by decide⟩ ⟨by show cells + 0 + 0 ≤ 600000; omega, by show slots + 0 + 0 ≤ 7302250; omega⟩ rfl (Nat.le_of_ble_eq_true rfl) dL_law_908 (fun t => XA.of t.1) (fun H2 locs2 tw2 hz2 tp2 => ?_)
  have th2 : mT ν2 h = some (.inl 10) := (XA.of tp2.1).1 h _ th
  refine lv_icmp_eq (tgt := 1604) hx hb dL_law_911 (by decide) (fun _ => ?_) (fun q => absurd rfl q)
  refine W.widen (k := cells + 4) (n := slots + 202) (by omega) (by omega) ?_
  exact kk H2 locs2 (sZ μ1 H2.size) ν2 ⟨tw2.symm, rel2.szl, tg1, th2, by omega, hl⟩
set_option maxHeartbeats 1000000 in
theorem lc_23 {p : Program} {l : Launch} {e : Env} {s : State} {m : MethodId} {below : List Frame} {meth : Method} {c : Code} {H : Heap} {locs : List Loc} {cells slots : Nat} {Q : State → Prop} {ls : Array Slot} {D : va_G} {E : Nat → ClassId} {tU b L g h k : Nat} {xs : Nat → Int32} {μ ν : XMem} (S : LSc p s c b L xs) (C : Cx p s m #[Value.ref b] c code 4 RL D E (fun q => s.heap.size ≤ q) tU) (I : LI D E s b g h μ ν H locs ls k) (hk : 6 * k + 6 ≤ L) (h1 : cells + 4 ≤ 600000) (h2 : slots + 202 ≤ 7302250)
    (kk : ∀ (H' : Heap) (locs' : List Loc) (μ' ν' : XMem), LI D E s b g h μ' ν' H' locs' ls k → W p l e room_1 s m #[Value.ref b] below meth c H' locs' (cells + 4) (slots + 202) Q (F0 m 1604 ls [])) :
    W p l e room_1 s m #[Value.ref b] below meth c H locs cells slots Q (F0 m 916 ls []) := by
  obtain ⟨tw, r, tg, th, hz, hl⟩ := I
  have hx := S.1
  have hb := S.2.1
  obtain ⟨r0, μ1, -, oc, -, -⟩ := op_show r (xs (6 * k + 1))
  refine lv_aload_n hx hb dL_law_916 rfl (lv_at hl 1 rfl) ?_
  refine ls_arg S tw hl hk (j := 1) (by omega) rfl dL_law_917 dL_law_918 dL_law_919 dL_law_920 dL_law_921 ?_
  refine lw_callV (As := [.int (xs (6 * k + 1))]) (rest := []) C hl.1 tw cb_L_110 cv_X9_show (k_X9_show rfl tg oc) tg rfl rfl ⟨by decide, by decide⟩ ⟨by show cells + 0 ≤ 600000; omega, by show slots + 0 ≤ 7302250; omega⟩ rfl (Nat.le_of_ble_eq_true rfl) dL_law_922 (fun t => XA.of t.1) (fun H1 locs1 tw1 hz1 tp1 => ?_)
  have tg1 : mT μ1 g = some (.inl 9) := (XA.of tp1.1).1 g _ tg
  obtain ⟨r1, μ2, ν2, oc2, om2, rel2⟩ := op_show (r.szr (z := H1.size)) (xs (6 * k + 1))
  obtain ⟨rfl, rfl⟩ : r0 = r1 ∧ μ1 = μ2 := by
    rw [oc] at oc2
    cases oc2
    exact ⟨rfl, rfl⟩
  refine lv_aload_n hx hb dL_law_925 rfl (lv_at hl 2 rfl) ?_
  refine ls_arg S tw1 hl hk (j := 1) (by omega) rfl dL_law_926 dL_law_927 dL_law_928 dL_law_929 dL_law_930 ?_
  refine lw_callV (As := [.int (xs (6 * k + 1))]) (rest := [.int r0]) C hl.1 tw1.symm cb_L_113 cv_X10_show (k_X10_show rfl th om2) th rfl rfl ⟨by decide, by decide⟩ ⟨by show cells + 0 + 0 ≤ 600000; omega, by show slots + 0 + 0 ≤ 7302250; omega⟩ rfl (Nat.le_of_ble_eq_true rfl) dL_law_931 (fun t => XA.of t.1) (fun H2 locs2 tw2 hz2 tp2 => ?_)
  have th2 : mT ν2 h = some (.inl 10) := (XA.of tp2.1).1 h _ th
  refine lv_icmp_eq (tgt := 1604) hx hb dL_law_934 (by decide) (fun _ => ?_) (fun q => absurd rfl q)
  refine W.widen (k := cells + 4) (n := slots + 202) (by omega) (by omega) ?_
  exact kk H2 locs2 (sZ μ1 H2.size) ν2 ⟨tw2.symm, rel2.szl, tg1, th2, by omega, hl⟩
set_option maxHeartbeats 1000000 in
theorem lc_24 {p : Program} {l : Launch} {e : Env} {s : State} {m : MethodId} {below : List Frame} {meth : Method} {c : Code} {H : Heap} {locs : List Loc} {cells slots : Nat} {Q : State → Prop} {ls : Array Slot} {D : va_G} {E : Nat → ClassId} {tU b L g h k : Nat} {xs : Nat → Int32} {μ ν : XMem} (S : LSc p s c b L xs) (C : Cx p s m #[Value.ref b] c code 4 RL D E (fun q => s.heap.size ≤ q) tU) (I : LI D E s b g h μ ν H locs ls k) (hk : 6 * k + 6 ≤ L) (h1 : cells + 4 ≤ 600000) (h2 : slots + 202 ≤ 7302250)
    (kk : ∀ (H' : Heap) (locs' : List Loc) (μ' ν' : XMem), LI D E s b g h μ' ν' H' locs' ls k → W p l e room_1 s m #[Value.ref b] below meth c H' locs' (cells + 4) (slots + 202) Q (F0 m 1604 ls [])) :
    W p l e room_1 s m #[Value.ref b] below meth c H locs cells slots Q (F0 m 939 ls []) := by
  obtain ⟨tw, r, tg, th, hz, hl⟩ := I
  have hx := S.1
  have hb := S.2.1
  obtain ⟨r0, μ1, -, oc, -, -⟩ := op_moved r (xs (6 * k + 1))
  refine lv_aload_n hx hb dL_law_939 rfl (lv_at hl 1 rfl) ?_
  refine ls_arg S tw hl hk (j := 1) (by omega) rfl dL_law_940 dL_law_941 dL_law_942 dL_law_943 dL_law_944 ?_
  refine lw_callV (As := [.int (xs (6 * k + 1))]) (rest := []) C hl.1 tw cb_L_114 cv_X9_moved (k_X9_moved rfl tg oc) tg rfl rfl ⟨by decide, by decide⟩ ⟨by show cells + 0 ≤ 600000; omega, by show slots + 0 ≤ 7302250; omega⟩ rfl (Nat.le_of_ble_eq_true rfl) dL_law_945 (fun t => XA.of t.1) (fun H1 locs1 tw1 hz1 tp1 => ?_)
  have tg1 : mT μ1 g = some (.inl 9) := (XA.of tp1.1).1 g _ tg
  obtain ⟨r1, μ2, ν2, oc2, om2, rel2⟩ := op_moved (r.szr (z := H1.size)) (xs (6 * k + 1))
  obtain ⟨rfl, rfl⟩ : r0 = r1 ∧ μ1 = μ2 := by
    rw [oc] at oc2
    cases oc2
    exact ⟨rfl, rfl⟩
  refine lv_aload_n hx hb dL_law_948 rfl (lv_at hl 2 rfl) ?_
  refine ls_arg S tw1 hl hk (j := 1) (by omega) rfl dL_law_949 dL_law_950 dL_law_951 dL_law_952 dL_law_953 ?_
  refine lw_callV (As := [.int (xs (6 * k + 1))]) (rest := [.int r0]) C hl.1 tw1.symm cb_L_117 cv_X10_moved (k_X10_moved rfl th om2) th rfl rfl ⟨by decide, by decide⟩ ⟨by show cells + 0 + 0 ≤ 600000; omega, by show slots + 0 + 0 ≤ 7302250; omega⟩ rfl (Nat.le_of_ble_eq_true rfl) dL_law_954 (fun t => XA.of t.1) (fun H2 locs2 tw2 hz2 tp2 => ?_)
  have th2 : mT ν2 h = some (.inl 10) := (XA.of tp2.1).1 h _ th
  refine lv_icmp_eq (tgt := 1604) hx hb dL_law_957 (by decide) (fun _ => ?_) (fun q => absurd rfl q)
  refine W.widen (k := cells + 4) (n := slots + 202) (by omega) (by omega) ?_
  exact kk H2 locs2 (sZ μ1 H2.size) ν2 ⟨tw2.symm, rel2.szl, tg1, th2, by omega, hl⟩
set_option maxHeartbeats 1000000 in
theorem lc_25 {p : Program} {l : Launch} {e : Env} {s : State} {m : MethodId} {below : List Frame} {meth : Method} {c : Code} {H : Heap} {locs : List Loc} {cells slots : Nat} {Q : State → Prop} {ls : Array Slot} {D : va_G} {E : Nat → ClassId} {tU b L g h k : Nat} {xs : Nat → Int32} {μ ν : XMem} (S : LSc p s c b L xs) (C : Cx p s m #[Value.ref b] c code 4 RL D E (fun q => s.heap.size ≤ q) tU) (I : LI D E s b g h μ ν H locs ls k) (hk : 6 * k + 6 ≤ L) (h1 : cells + 4 ≤ 600000) (h2 : slots + 202 ≤ 7302250)
    (kk : ∀ (H' : Heap) (locs' : List Loc) (μ' ν' : XMem), LI D E s b g h μ' ν' H' locs' ls k → W p l e room_1 s m #[Value.ref b] below meth c H' locs' (cells + 4) (slots + 202) Q (F0 m 1604 ls [])) :
    W p l e room_1 s m #[Value.ref b] below meth c H locs cells slots Q (F0 m 962 ls []) := by
  obtain ⟨tw, r, tg, th, hz, hl⟩ := I
  have hx := S.1
  have hb := S.2.1
  obtain ⟨r0, μ1, -, oc, -, -⟩ := op_foretold r (xs (6 * k + 1)) (xs (6 * k + 2)) (xs (6 * k + 3)) (xs (6 * k + 4))
  refine lv_aload_n hx hb dL_law_962 rfl (lv_at hl 1 rfl) ?_
  refine ls_arg S tw hl hk (j := 1) (by omega) rfl dL_law_963 dL_law_964 dL_law_965 dL_law_966 dL_law_967 ?_
  refine ls_arg S tw hl hk (j := 2) (by omega) rfl dL_law_968 dL_law_969 dL_law_970 dL_law_971 dL_law_972 ?_
  refine ls_arg S tw hl hk (j := 3) (by omega) rfl dL_law_973 dL_law_974 dL_law_975 dL_law_976 dL_law_977 ?_
  refine ls_arg S tw hl hk (j := 4) (by omega) rfl dL_law_978 dL_law_979 dL_law_980 dL_law_981 dL_law_982 ?_
  refine lw_callV (As := [.int (xs (6 * k + 1)), .int (xs (6 * k + 2)), .int (xs (6 * k + 3)), .int (xs (6 * k + 4))]) (rest := []) C hl.1 tw cb_L_118 cv_X9_foretold (k_X9_foretold rfl tg oc) tg rfl rfl ⟨by decide, by decide⟩ ⟨by show cells + 0 ≤ 600000; omega, by show slots + 0 ≤ 7302250; omega⟩ rfl (Nat.le_of_ble_eq_true rfl) dL_law_983 (fun t => XA.of t.1) (fun H1 locs1 tw1 hz1 tp1 => ?_)
  have tg1 : mT μ1 g = some (.inl 9) := (XA.of tp1.1).1 g _ tg
  obtain ⟨r1, μ2, ν2, oc2, om2, rel2⟩ := op_foretold (r.szr (z := H1.size)) (xs (6 * k + 1)) (xs (6 * k + 2)) (xs (6 * k + 3)) (xs (6 * k + 4))
  obtain ⟨rfl, rfl⟩ : r0 = r1 ∧ μ1 = μ2 := by
    rw [oc] at oc2
    cases oc2
    exact ⟨rfl, rfl⟩
  refine lv_aload_n hx hb dL_law_986 rfl (lv_at hl 2 rfl) ?_
  refine ls_arg S tw1 hl hk (j := 1) (by omega) rfl dL_law_987 dL_law_988 dL_law_989 dL_law_990 dL_law_991 ?_
  refine ls_arg S tw1 hl hk (j := 2) (by omega) rfl dL_law_992 dL_law_993 dL_law_994 dL_law_995 dL_law_996 ?_
  refine ls_arg S tw1 hl hk (j := 3) (by omega) rfl dL_law_997 dL_law_998 dL_law_999 dL_law_1000 dL_law_1001 ?_
  refine ls_arg S tw1 hl hk (j := 4) (by omega) rfl dL_law_1002 dL_law_1003 dL_law_1004 dL_law_1005 dL_law_1006 ?_
  refine lw_callV (As := [.int (xs (6 * k + 1)), .int (xs (6 * k + 2)), .int (xs (6 * k + 3)), .int (xs (6 * k + 4))]) (rest := [.int r0]) C hl.1 tw1.symm cb_L_121 cv_X10_foretold (k_X10_foretold rfl th om2) th rfl rfl ⟨by decide, by decide⟩ ⟨by show cells + 0 + 0 ≤ 600000; omega, by show slots + 0 + 0 ≤ 7302250; omega⟩ rfl (Nat.le_of_ble_eq_true rfl) dL_law_1007 (fun t => XA.of t.1) (fun H2 locs2 tw2 hz2 tp2 => ?_)
  have th2 : mT ν2 h = some (.inl 10) := (XA.of tp2.1).1 h _ th
  refine lv_icmp_eq (tgt := 1604) hx hb dL_law_1010 (by decide) (fun _ => ?_) (fun q => absurd rfl q)
  refine W.widen (k := cells + 4) (n := slots + 202) (by omega) (by omega) ?_
  exact kk H2 locs2 (sZ μ1 H2.size) ν2 ⟨tw2.symm, rel2.szl, tg1, th2, by omega, hl⟩
set_option maxHeartbeats 1000000 in
theorem lc_26 {p : Program} {l : Launch} {e : Env} {s : State} {m : MethodId} {below : List Frame} {meth : Method} {c : Code} {H : Heap} {locs : List Loc} {cells slots : Nat} {Q : State → Prop} {ls : Array Slot} {D : va_G} {E : Nat → ClassId} {tU b L g h k : Nat} {xs : Nat → Int32} {μ ν : XMem} (S : LSc p s c b L xs) (C : Cx p s m #[Value.ref b] c code 4 RL D E (fun q => s.heap.size ≤ q) tU) (I : LI D E s b g h μ ν H locs ls k) (hk : 6 * k + 6 ≤ L) (h1 : cells + 4 ≤ 600000) (h2 : slots + 202 ≤ 7302250)
    (kk : ∀ (H' : Heap) (locs' : List Loc) (μ' ν' : XMem), LI D E s b g h μ' ν' H' locs' ls k → W p l e room_1 s m #[Value.ref b] below meth c H' locs' (cells + 4) (slots + 202) Q (F0 m 1604 ls [])) :
    W p l e room_1 s m #[Value.ref b] below meth c H locs cells slots Q (F0 m 1015 ls []) := by
  obtain ⟨tw, r, tg, th, hz, hl⟩ := I
  have hx := S.1
  have hb := S.2.1
  obtain ⟨r0, μ1, -, oc, -, -⟩ := op_parted r (xs (6 * k + 1)) (xs (6 * k + 2)) (xs (6 * k + 3)) (xs (6 * k + 4))
  refine lv_aload_n hx hb dL_law_1015 rfl (lv_at hl 1 rfl) ?_
  refine ls_arg S tw hl hk (j := 1) (by omega) rfl dL_law_1016 dL_law_1017 dL_law_1018 dL_law_1019 dL_law_1020 ?_
  refine ls_arg S tw hl hk (j := 2) (by omega) rfl dL_law_1021 dL_law_1022 dL_law_1023 dL_law_1024 dL_law_1025 ?_
  refine ls_arg S tw hl hk (j := 3) (by omega) rfl dL_law_1026 dL_law_1027 dL_law_1028 dL_law_1029 dL_law_1030 ?_
  refine ls_arg S tw hl hk (j := 4) (by omega) rfl dL_law_1031 dL_law_1032 dL_law_1033 dL_law_1034 dL_law_1035 ?_
  refine lw_callV (As := [.int (xs (6 * k + 1)), .int (xs (6 * k + 2)), .int (xs (6 * k + 3)), .int (xs (6 * k + 4))]) (rest := []) C hl.1 tw cb_L_122 cv_X9_parted (k_X9_parted rfl tg oc) tg rfl rfl ⟨by decide, by decide⟩ ⟨by show cells + 0 ≤ 600000; omega, by show slots + 0 ≤ 7302250; omega⟩ rfl (Nat.le_of_ble_eq_true rfl) dL_law_1036 (fun t => XA.of t.1) (fun H1 locs1 tw1 hz1 tp1 => ?_)
  have tg1 : mT μ1 g = some (.inl 9) := (XA.of tp1.1).1 g _ tg
  obtain ⟨r1, μ2, ν2, oc2, om2, rel2⟩ := op_parted (r.szr (z := H1.size)) (xs (6 * k + 1)) (xs (6 * k + 2)) (xs (6 * k + 3)) (xs (6 * k + 4))
  obtain ⟨rfl, rfl⟩ : r0 = r1 ∧ μ1 = μ2 := by
    rw [oc] at oc2
    cases oc2
    exact ⟨rfl, rfl⟩
  refine lv_aload_n hx hb dL_law_1039 rfl (lv_at hl 2 rfl) ?_
  refine ls_arg S tw1 hl hk (j := 1) (by omega) rfl dL_law_1040 dL_law_1041 dL_law_1042 dL_law_1043 dL_law_1044 ?_
  refine ls_arg S tw1 hl hk (j := 2) (by omega) rfl dL_law_1045 dL_law_1046 dL_law_1047 dL_law_1048 dL_law_1049 ?_
  refine ls_arg S tw1 hl hk (j := 3) (by omega) rfl dL_law_1050 dL_law_1051 dL_law_1052 dL_law_1053 dL_law_1054 ?_
  refine ls_arg S tw1 hl hk (j := 4) (by omega) rfl dL_law_1055 dL_law_1056 dL_law_1057 dL_law_1058 dL_law_1059 ?_
  refine lw_callV (As := [.int (xs (6 * k + 1)), .int (xs (6 * k + 2)), .int (xs (6 * k + 3)), .int (xs (6 * k + 4))]) (rest := [.int r0]) C hl.1 tw1.symm cb_L_125 cv_X10_parted (k_X10_parted rfl th om2) th rfl rfl ⟨by decide, by decide⟩ ⟨by show cells + 0 + 0 ≤ 600000; omega, by show slots + 0 + 0 ≤ 7302250; omega⟩ rfl (Nat.le_of_ble_eq_true rfl) dL_law_1060 (fun t => XA.of t.1) (fun H2 locs2 tw2 hz2 tp2 => ?_)
  have th2 : mT ν2 h = some (.inl 10) := (XA.of tp2.1).1 h _ th
  refine lv_icmp_eq (tgt := 1604) hx hb dL_law_1063 (by decide) (fun _ => ?_) (fun q => absurd rfl q)
  refine W.widen (k := cells + 4) (n := slots + 202) (by omega) (by omega) ?_
  exact kk H2 locs2 (sZ μ1 H2.size) ν2 ⟨tw2.symm, rel2.szl, tg1, th2, by omega, hl⟩
set_option maxHeartbeats 1000000 in
theorem lc_27 {p : Program} {l : Launch} {e : Env} {s : State} {m : MethodId} {below : List Frame} {meth : Method} {c : Code} {H : Heap} {locs : List Loc} {cells slots : Nat} {Q : State → Prop} {ls : Array Slot} {D : va_G} {E : Nat → ClassId} {tU b L g h k : Nat} {xs : Nat → Int32} {μ ν : XMem} (S : LSc p s c b L xs) (C : Cx p s m #[Value.ref b] c code 4 RL D E (fun q => s.heap.size ≤ q) tU) (I : LI D E s b g h μ ν H locs ls k) (hk : 6 * k + 6 ≤ L) (h1 : cells + 4 ≤ 600000) (h2 : slots + 202 ≤ 7302250)
    (kk : ∀ (H' : Heap) (locs' : List Loc) (μ' ν' : XMem), LI D E s b g h μ' ν' H' locs' ls k → W p l e room_1 s m #[Value.ref b] below meth c H' locs' (cells + 4) (slots + 202) Q (F0 m 1604 ls [])) :
    W p l e room_1 s m #[Value.ref b] below meth c H locs cells slots Q (F0 m 1068 ls []) := by
  obtain ⟨tw, r, tg, th, hz, hl⟩ := I
  have hx := S.1
  have hb := S.2.1
  obtain ⟨r0, μ1, -, oc, -, -⟩ := op_look r (xs (6 * k + 1)) (xs (6 * k + 2)) (xs (6 * k + 3)) (xs (6 * k + 4))
  refine lv_aload_n hx hb dL_law_1068 rfl (lv_at hl 1 rfl) ?_
  refine ls_arg S tw hl hk (j := 1) (by omega) rfl dL_law_1069 dL_law_1070 dL_law_1071 dL_law_1072 dL_law_1073 ?_
  refine ls_arg S tw hl hk (j := 2) (by omega) rfl dL_law_1074 dL_law_1075 dL_law_1076 dL_law_1077 dL_law_1078 ?_
  refine ls_arg S tw hl hk (j := 3) (by omega) rfl dL_law_1079 dL_law_1080 dL_law_1081 dL_law_1082 dL_law_1083 ?_
  refine ls_arg S tw hl hk (j := 4) (by omega) rfl dL_law_1084 dL_law_1085 dL_law_1086 dL_law_1087 dL_law_1088 ?_
  refine lw_callV (As := [.int (xs (6 * k + 1)), .int (xs (6 * k + 2)), .int (xs (6 * k + 3)), .int (xs (6 * k + 4))]) (rest := []) C hl.1 tw cb_L_126 cv_X9_look (k_X9_look rfl tg oc) tg rfl rfl ⟨by decide, by decide⟩ ⟨by show cells + 0 ≤ 600000; omega, by show slots + 0 ≤ 7302250; omega⟩ rfl (Nat.le_of_ble_eq_true rfl) dL_law_1089 (fun t => XA.of t.1) (fun H1 locs1 tw1 hz1 tp1 => ?_)
  have tg1 : mT μ1 g = some (.inl 9) := (XA.of tp1.1).1 g _ tg
  obtain ⟨r1, μ2, ν2, oc2, om2, rel2⟩ := op_look (r.szr (z := H1.size)) (xs (6 * k + 1)) (xs (6 * k + 2)) (xs (6 * k + 3)) (xs (6 * k + 4))
  obtain ⟨rfl, rfl⟩ : r0 = r1 ∧ μ1 = μ2 := by
    rw [oc] at oc2
    cases oc2
    exact ⟨rfl, rfl⟩
  refine lv_aload_n hx hb dL_law_1092 rfl (lv_at hl 2 rfl) ?_
  refine ls_arg S tw1 hl hk (j := 1) (by omega) rfl dL_law_1093 dL_law_1094 dL_law_1095 dL_law_1096 dL_law_1097 ?_
  refine ls_arg S tw1 hl hk (j := 2) (by omega) rfl dL_law_1098 dL_law_1099 dL_law_1100 dL_law_1101 dL_law_1102 ?_
  refine ls_arg S tw1 hl hk (j := 3) (by omega) rfl dL_law_1103 dL_law_1104 dL_law_1105 dL_law_1106 dL_law_1107 ?_
  refine ls_arg S tw1 hl hk (j := 4) (by omega) rfl dL_law_1108 dL_law_1109 dL_law_1110 dL_law_1111 dL_law_1112 ?_
  refine lw_callV (As := [.int (xs (6 * k + 1)), .int (xs (6 * k + 2)), .int (xs (6 * k + 3)), .int (xs (6 * k + 4))]) (rest := [.int r0]) C hl.1 tw1.symm cb_L_129 cv_X10_look (k_X10_look rfl th om2) th rfl rfl ⟨by decide, by decide⟩ ⟨by show cells + 0 + 0 ≤ 600000; omega, by show slots + 0 + 0 ≤ 7302250; omega⟩ rfl (Nat.le_of_ble_eq_true rfl) dL_law_1113 (fun t => XA.of t.1) (fun H2 locs2 tw2 hz2 tp2 => ?_)
  have th2 : mT ν2 h = some (.inl 10) := (XA.of tp2.1).1 h _ th
  refine lv_icmp_eq (tgt := 1604) hx hb dL_law_1116 (by decide) (fun _ => ?_) (fun q => absurd rfl q)
  refine W.widen (k := cells + 4) (n := slots + 202) (by omega) (by omega) ?_
  exact kk H2 locs2 (sZ μ1 H2.size) ν2 ⟨tw2.symm, rel2.szl, tg1, th2, by omega, hl⟩
set_option maxHeartbeats 1000000 in
theorem lc_28 {p : Program} {l : Launch} {e : Env} {s : State} {m : MethodId} {below : List Frame} {meth : Method} {c : Code} {H : Heap} {locs : List Loc} {cells slots : Nat} {Q : State → Prop} {ls : Array Slot} {D : va_G} {E : Nat → ClassId} {tU b L g h k : Nat} {xs : Nat → Int32} {μ ν : XMem} (S : LSc p s c b L xs) (C : Cx p s m #[Value.ref b] c code 4 RL D E (fun q => s.heap.size ≤ q) tU) (I : LI D E s b g h μ ν H locs ls k) (hk : 6 * k + 6 ≤ L) (h1 : cells + 4 ≤ 600000) (h2 : slots + 202 ≤ 7302250)
    (kk : ∀ (H' : Heap) (locs' : List Loc) (μ' ν' : XMem), LI D E s b g h μ' ν' H' locs' ls k → W p l e room_1 s m #[Value.ref b] below meth c H' locs' (cells + 4) (slots + 202) Q (F0 m 1604 ls [])) :
    W p l e room_1 s m #[Value.ref b] below meth c H locs cells slots Q (F0 m 1121 ls []) := by
  obtain ⟨tw, r, tg, th, hz, hl⟩ := I
  have hx := S.1
  have hb := S.2.1
  obtain ⟨r0, μ1, -, oc, -, -⟩ := op_must r (xs (6 * k + 1)) (xs (6 * k + 2))
  refine lv_aload_n hx hb dL_law_1121 rfl (lv_at hl 1 rfl) ?_
  refine ls_arg S tw hl hk (j := 1) (by omega) rfl dL_law_1122 dL_law_1123 dL_law_1124 dL_law_1125 dL_law_1126 ?_
  refine ls_arg S tw hl hk (j := 2) (by omega) rfl dL_law_1127 dL_law_1128 dL_law_1129 dL_law_1130 dL_law_1131 ?_
  refine lw_callV (As := [.int (xs (6 * k + 1)), .int (xs (6 * k + 2))]) (rest := []) C hl.1 tw cb_L_130 cv_X9_must (k_X9_must rfl tg oc) tg rfl rfl ⟨by decide, by decide⟩ ⟨by show cells + 0 ≤ 600000; omega, by show slots + 0 ≤ 7302250; omega⟩ rfl (Nat.le_of_ble_eq_true rfl) dL_law_1132 (fun t => XA.of t.1) (fun H1 locs1 tw1 hz1 tp1 => ?_)
  have tg1 : mT μ1 g = some (.inl 9) := (XA.of tp1.1).1 g _ tg
  obtain ⟨r1, μ2, ν2, oc2, om2, rel2⟩ := op_must (r.szr (z := H1.size)) (xs (6 * k + 1)) (xs (6 * k + 2))
  obtain ⟨rfl, rfl⟩ : r0 = r1 ∧ μ1 = μ2 := by
    rw [oc] at oc2
    cases oc2
    exact ⟨rfl, rfl⟩
  refine lv_aload_n hx hb dL_law_1135 rfl (lv_at hl 2 rfl) ?_
  refine ls_arg S tw1 hl hk (j := 1) (by omega) rfl dL_law_1136 dL_law_1137 dL_law_1138 dL_law_1139 dL_law_1140 ?_
  refine ls_arg S tw1 hl hk (j := 2) (by omega) rfl dL_law_1141 dL_law_1142 dL_law_1143 dL_law_1144 dL_law_1145 ?_
  refine lw_callV (As := [.int (xs (6 * k + 1)), .int (xs (6 * k + 2))]) (rest := [.int r0]) C hl.1 tw1.symm cb_L_133 cv_X10_must (k_X10_must rfl th om2) th rfl rfl ⟨by decide, by decide⟩ ⟨by show cells + 0 + 0 ≤ 600000; omega, by show slots + 0 + 0 ≤ 7302250; omega⟩ rfl (Nat.le_of_ble_eq_true rfl) dL_law_1146 (fun t => XA.of t.1) (fun H2 locs2 tw2 hz2 tp2 => ?_)
  have th2 : mT ν2 h = some (.inl 10) := (XA.of tp2.1).1 h _ th
  refine lv_icmp_eq (tgt := 1604) hx hb dL_law_1149 (by decide) (fun _ => ?_) (fun q => absurd rfl q)
  refine W.widen (k := cells + 4) (n := slots + 202) (by omega) (by omega) ?_
  exact kk H2 locs2 (sZ μ1 H2.size) ν2 ⟨tw2.symm, rel2.szl, tg1, th2, by omega, hl⟩
set_option maxHeartbeats 1000000 in
theorem lc_29 {p : Program} {l : Launch} {e : Env} {s : State} {m : MethodId} {below : List Frame} {meth : Method} {c : Code} {H : Heap} {locs : List Loc} {cells slots : Nat} {Q : State → Prop} {ls : Array Slot} {D : va_G} {E : Nat → ClassId} {tU b L g h k : Nat} {xs : Nat → Int32} {μ ν : XMem} (S : LSc p s c b L xs) (C : Cx p s m #[Value.ref b] c code 4 RL D E (fun q => s.heap.size ≤ q) tU) (I : LI D E s b g h μ ν H locs ls k) (hk : 6 * k + 6 ≤ L) (h1 : cells + 4 ≤ 600000) (h2 : slots + 202 ≤ 7302250)
    (kk : ∀ (H' : Heap) (locs' : List Loc) (μ' ν' : XMem), LI D E s b g h μ' ν' H' locs' ls k → W p l e room_1 s m #[Value.ref b] below meth c H' locs' (cells + 4) (slots + 202) Q (F0 m 1604 ls [])) :
    W p l e room_1 s m #[Value.ref b] below meth c H locs cells slots Q (F0 m 1154 ls []) := by
  obtain ⟨tw, r, tg, th, hz, hl⟩ := I
  have hx := S.1
  have hb := S.2.1
  obtain ⟨r0, μ1, -, oc, -, -⟩ := op_barred r (xs (6 * k + 1)) (xs (6 * k + 2)) (xs (6 * k + 3))
  refine lv_aload_n hx hb dL_law_1154 rfl (lv_at hl 1 rfl) ?_
  refine ls_arg S tw hl hk (j := 1) (by omega) rfl dL_law_1155 dL_law_1156 dL_law_1157 dL_law_1158 dL_law_1159 ?_
  refine ls_arg S tw hl hk (j := 2) (by omega) rfl dL_law_1160 dL_law_1161 dL_law_1162 dL_law_1163 dL_law_1164 ?_
  refine ls_arg S tw hl hk (j := 3) (by omega) rfl dL_law_1165 dL_law_1166 dL_law_1167 dL_law_1168 dL_law_1169 ?_
  refine lw_callV (As := [.int (xs (6 * k + 1)), .int (xs (6 * k + 2)), .int (xs (6 * k + 3))]) (rest := []) C hl.1 tw cb_L_134 cv_X9_barred (k_X9_barred rfl tg oc) tg rfl rfl ⟨by decide, by decide⟩ ⟨by show cells + 0 ≤ 600000; omega, by show slots + 0 ≤ 7302250; omega⟩ rfl (Nat.le_of_ble_eq_true rfl) dL_law_1170 (fun t => XA.of t.1) (fun H1 locs1 tw1 hz1 tp1 => ?_)
  have tg1 : mT μ1 g = some (.inl 9) := (XA.of tp1.1).1 g _ tg
  obtain ⟨r1, μ2, ν2, oc2, om2, rel2⟩ := op_barred (r.szr (z := H1.size)) (xs (6 * k + 1)) (xs (6 * k + 2)) (xs (6 * k + 3))
  obtain ⟨rfl, rfl⟩ : r0 = r1 ∧ μ1 = μ2 := by
    rw [oc] at oc2
    cases oc2
    exact ⟨rfl, rfl⟩
  refine lv_aload_n hx hb dL_law_1173 rfl (lv_at hl 2 rfl) ?_
  refine ls_arg S tw1 hl hk (j := 1) (by omega) rfl dL_law_1174 dL_law_1175 dL_law_1176 dL_law_1177 dL_law_1178 ?_
  refine ls_arg S tw1 hl hk (j := 2) (by omega) rfl dL_law_1179 dL_law_1180 dL_law_1181 dL_law_1182 dL_law_1183 ?_
  refine ls_arg S tw1 hl hk (j := 3) (by omega) rfl dL_law_1184 dL_law_1185 dL_law_1186 dL_law_1187 dL_law_1188 ?_
  refine lw_callV (As := [.int (xs (6 * k + 1)), .int (xs (6 * k + 2)), .int (xs (6 * k + 3))]) (rest := [.int r0]) C hl.1 tw1.symm cb_L_138 cv_X10_barred (k_X10_barred rfl th om2) th rfl rfl ⟨by decide, by decide⟩ ⟨by show cells + 0 + 0 ≤ 600000; omega, by show slots + 0 + 0 ≤ 7302250; omega⟩ rfl (Nat.le_of_ble_eq_true rfl) dL_law_1189 (fun t => XA.of t.1) (fun H2 locs2 tw2 hz2 tp2 => ?_)
  have th2 : mT ν2 h = some (.inl 10) := (XA.of tp2.1).1 h _ th
  refine lv_icmp_eq (tgt := 1604) hx hb dL_law_1192 (by decide) (fun _ => ?_) (fun q => absurd rfl q)
  refine W.widen (k := cells + 4) (n := slots + 202) (by omega) (by omega) ?_
  exact kk H2 locs2 (sZ μ1 H2.size) ν2 ⟨tw2.symm, rel2.szl, tg1, th2, by omega, hl⟩
set_option maxHeartbeats 1000000 in
theorem lc_30 {p : Program} {l : Launch} {e : Env} {s : State} {m : MethodId} {below : List Frame} {meth : Method} {c : Code} {H : Heap} {locs : List Loc} {cells slots : Nat} {Q : State → Prop} {ls : Array Slot} {D : va_G} {E : Nat → ClassId} {tU b L g h k : Nat} {xs : Nat → Int32} {μ ν : XMem} (S : LSc p s c b L xs) (C : Cx p s m #[Value.ref b] c code 4 RL D E (fun q => s.heap.size ≤ q) tU) (I : LI D E s b g h μ ν H locs ls k) (hk : 6 * k + 6 ≤ L) (h1 : cells + 4 ≤ 600000) (h2 : slots + 202 ≤ 7302250)
    (kk : ∀ (H' : Heap) (locs' : List Loc) (μ' ν' : XMem), LI D E s b g h μ' ν' H' locs' ls k → W p l e room_1 s m #[Value.ref b] below meth c H' locs' (cells + 4) (slots + 202) Q (F0 m 1604 ls [])) :
    W p l e room_1 s m #[Value.ref b] below meth c H locs cells slots Q (F0 m 1197 ls []) := by
  obtain ⟨tw, r, tg, th, hz, hl⟩ := I
  have hx := S.1
  have hb := S.2.1
  obtain ⟨r0, μ1, -, oc, -, -⟩ := op_night r (xs (6 * k + 1)) (xs (6 * k + 2))
  refine lv_aload_n hx hb dL_law_1197 rfl (lv_at hl 1 rfl) ?_
  refine ls_arg S tw hl hk (j := 1) (by omega) rfl dL_law_1198 dL_law_1199 dL_law_1200 dL_law_1201 dL_law_1202 ?_
  refine ls_arg S tw hl hk (j := 2) (by omega) rfl dL_law_1203 dL_law_1204 dL_law_1205 dL_law_1206 dL_law_1207 ?_
  refine lw_callV (As := [.int (xs (6 * k + 1)), .int (xs (6 * k + 2))]) (rest := []) C hl.1 tw cb_L_139 cv_X9_night (k_X9_night rfl tg oc) tg rfl rfl ⟨by decide, by decide⟩ ⟨by show cells + 0 ≤ 600000; omega, by show slots + 0 ≤ 7302250; omega⟩ rfl (Nat.le_of_ble_eq_true rfl) dL_law_1208 (fun t => XA.of t.1) (fun H1 locs1 tw1 hz1 tp1 => ?_)
  have tg1 : mT μ1 g = some (.inl 9) := (XA.of tp1.1).1 g _ tg
  obtain ⟨r1, μ2, ν2, oc2, om2, rel2⟩ := op_night (r.szr (z := H1.size)) (xs (6 * k + 1)) (xs (6 * k + 2))
  obtain ⟨rfl, rfl⟩ : r0 = r1 ∧ μ1 = μ2 := by
    rw [oc] at oc2
    cases oc2
    exact ⟨rfl, rfl⟩
  refine lv_aload_n hx hb dL_law_1211 rfl (lv_at hl 2 rfl) ?_
  refine ls_arg S tw1 hl hk (j := 1) (by omega) rfl dL_law_1212 dL_law_1213 dL_law_1214 dL_law_1215 dL_law_1216 ?_
  refine ls_arg S tw1 hl hk (j := 2) (by omega) rfl dL_law_1217 dL_law_1218 dL_law_1219 dL_law_1220 dL_law_1221 ?_
  refine lw_callV (As := [.int (xs (6 * k + 1)), .int (xs (6 * k + 2))]) (rest := [.int r0]) C hl.1 tw1.symm cb_L_142 cv_X10_night (k_X10_night rfl th om2) th rfl rfl ⟨by decide, by decide⟩ ⟨by show cells + 0 + 0 ≤ 600000; omega, by show slots + 0 + 0 ≤ 7302250; omega⟩ rfl (Nat.le_of_ble_eq_true rfl) dL_law_1222 (fun t => XA.of t.1) (fun H2 locs2 tw2 hz2 tp2 => ?_)
  have th2 : mT ν2 h = some (.inl 10) := (XA.of tp2.1).1 h _ th
  refine lv_icmp_eq (tgt := 1604) hx hb dL_law_1225 (by decide) (fun _ => ?_) (fun q => absurd rfl q)
  refine W.widen (k := cells + 4) (n := slots + 202) (by omega) (by omega) ?_
  exact kk H2 locs2 (sZ μ1 H2.size) ν2 ⟨tw2.symm, rel2.szl, tg1, th2, by omega, hl⟩
set_option maxHeartbeats 1000000 in
theorem lc_31 {p : Program} {l : Launch} {e : Env} {s : State} {m : MethodId} {below : List Frame} {meth : Method} {c : Code} {H : Heap} {locs : List Loc} {cells slots : Nat} {Q : State → Prop} {ls : Array Slot} {D : va_G} {E : Nat → ClassId} {tU b L g h k : Nat} {xs : Nat → Int32} {μ ν : XMem} (S : LSc p s c b L xs) (C : Cx p s m #[Value.ref b] c code 4 RL D E (fun q => s.heap.size ≤ q) tU) (I : LI D E s b g h μ ν H locs ls k) (hk : 6 * k + 6 ≤ L) (h1 : cells + 4 ≤ 600000) (h2 : slots + 202 ≤ 7302250)
    (kk : ∀ (H' : Heap) (locs' : List Loc) (μ' ν' : XMem), LI D E s b g h μ' ν' H' locs' ls k → W p l e room_1 s m #[Value.ref b] below meth c H' locs' (cells + 4) (slots + 202) Q (F0 m 1604 ls [])) :
    W p l e room_1 s m #[Value.ref b] below meth c H locs cells slots Q (F0 m 1230 ls []) := by
  obtain ⟨tw, r, tg, th, hz, hl⟩ := I
  have hx := S.1
  have hb := S.2.1
  obtain ⟨r0, μ1, -, oc, -, -⟩ := op_need r (xs (6 * k + 1)) (xs (6 * k + 2)) (xs (6 * k + 3))
  refine lv_aload_n hx hb dL_law_1230 rfl (lv_at hl 1 rfl) ?_
  refine ls_arg S tw hl hk (j := 1) (by omega) rfl dL_law_1231 dL_law_1232 dL_law_1233 dL_law_1234 dL_law_1235 ?_
  refine ls_arg S tw hl hk (j := 2) (by omega) rfl dL_law_1236 dL_law_1237 dL_law_1238 dL_law_1239 dL_law_1240 ?_
  refine ls_arg S tw hl hk (j := 3) (by omega) rfl dL_law_1241 dL_law_1242 dL_law_1243 dL_law_1244 dL_law_1245 ?_
  refine lw_callV (As := [.int (xs (6 * k + 1)), .int (xs (6 * k + 2)), .int (xs (6 * k + 3))]) (rest := []) C hl.1 tw cb_L_143 cv_X9_need (k_X9_need rfl tg oc) tg rfl rfl ⟨by decide, by decide⟩ ⟨by show cells + 0 ≤ 600000; omega, by show slots + 0 ≤ 7302250; omega⟩ rfl (Nat.le_of_ble_eq_true rfl) dL_law_1246 (fun t => XA.of t.1) (fun H1 locs1 tw1 hz1 tp1 => ?_)
  have tg1 : mT μ1 g = some (.inl 9) := (XA.of tp1.1).1 g _ tg
  obtain ⟨r1, μ2, ν2, oc2, om2, rel2⟩ := op_need (r.szr (z := H1.size)) (xs (6 * k + 1)) (xs (6 * k + 2)) (xs (6 * k + 3))
  obtain ⟨rfl, rfl⟩ : r0 = r1 ∧ μ1 = μ2 := by
    rw [oc] at oc2
    cases oc2
    exact ⟨rfl, rfl⟩
  refine lv_aload_n hx hb dL_law_1249 rfl (lv_at hl 2 rfl) ?_
  refine ls_arg S tw1 hl hk (j := 1) (by omega) rfl dL_law_1250 dL_law_1251 dL_law_1252 dL_law_1253 dL_law_1254 ?_
  refine ls_arg S tw1 hl hk (j := 2) (by omega) rfl dL_law_1255 dL_law_1256 dL_law_1257 dL_law_1258 dL_law_1259 ?_
  refine ls_arg S tw1 hl hk (j := 3) (by omega) rfl dL_law_1260 dL_law_1261 dL_law_1262 dL_law_1263 dL_law_1264 ?_
  refine lw_callV (As := [.int (xs (6 * k + 1)), .int (xs (6 * k + 2)), .int (xs (6 * k + 3))]) (rest := [.int r0]) C hl.1 tw1.symm cb_L_146 cv_X10_need (k_X10_need rfl th om2) th rfl rfl ⟨by decide, by decide⟩ ⟨by show cells + 0 + 0 ≤ 600000; omega, by show slots + 0 + 0 ≤ 7302250; omega⟩ rfl (Nat.le_of_ble_eq_true rfl) dL_law_1265 (fun t => XA.of t.1) (fun H2 locs2 tw2 hz2 tp2 => ?_)
  have th2 : mT ν2 h = some (.inl 10) := (XA.of tp2.1).1 h _ th
  refine lv_icmp_eq (tgt := 1604) hx hb dL_law_1268 (by decide) (fun _ => ?_) (fun q => absurd rfl q)
  refine W.widen (k := cells + 4) (n := slots + 202) (by omega) (by omega) ?_
  exact kk H2 locs2 (sZ μ1 H2.size) ν2 ⟨tw2.symm, rel2.szl, tg1, th2, by omega, hl⟩
set_option maxHeartbeats 1000000 in
theorem lc_32 {p : Program} {l : Launch} {e : Env} {s : State} {m : MethodId} {below : List Frame} {meth : Method} {c : Code} {H : Heap} {locs : List Loc} {cells slots : Nat} {Q : State → Prop} {ls : Array Slot} {D : va_G} {E : Nat → ClassId} {tU b L g h k : Nat} {xs : Nat → Int32} {μ ν : XMem} (S : LSc p s c b L xs) (C : Cx p s m #[Value.ref b] c code 4 RL D E (fun q => s.heap.size ≤ q) tU) (I : LI D E s b g h μ ν H locs ls k) (hk : 6 * k + 6 ≤ L) (h1 : cells + 4 ≤ 600000) (h2 : slots + 202 ≤ 7302250)
    (kk : ∀ (H' : Heap) (locs' : List Loc) (μ' ν' : XMem), LI D E s b g h μ' ν' H' locs' ls k → W p l e room_1 s m #[Value.ref b] below meth c H' locs' (cells + 4) (slots + 202) Q (F0 m 1604 ls [])) :
    W p l e room_1 s m #[Value.ref b] below meth c H locs cells slots Q (F0 m 1273 ls []) := by
  obtain ⟨tw, r, tg, th, hz, hl⟩ := I
  have hx := S.1
  have hb := S.2.1
  obtain ⟨r0, μ1, -, oc, -, -⟩ := op_read r (xs (6 * k + 1)) (xs (6 * k + 2))
  refine lv_aload_n hx hb dL_law_1273 rfl (lv_at hl 1 rfl) ?_
  refine ls_arg S tw hl hk (j := 1) (by omega) rfl dL_law_1274 dL_law_1275 dL_law_1276 dL_law_1277 dL_law_1278 ?_
  refine ls_arg S tw hl hk (j := 2) (by omega) rfl dL_law_1279 dL_law_1280 dL_law_1281 dL_law_1282 dL_law_1283 ?_
  refine lw_callV (As := [.int (xs (6 * k + 1)), .int (xs (6 * k + 2))]) (rest := []) C hl.1 tw cb_L_147 cv_X9_read (k_X9_read rfl tg oc) tg rfl rfl ⟨by decide, by decide⟩ ⟨by show cells + 0 ≤ 600000; omega, by show slots + 0 ≤ 7302250; omega⟩ rfl (Nat.le_of_ble_eq_true rfl) dL_law_1284 (fun t => XA.of t.1) (fun H1 locs1 tw1 hz1 tp1 => ?_)
  have tg1 : mT μ1 g = some (.inl 9) := (XA.of tp1.1).1 g _ tg
  obtain ⟨r1, μ2, ν2, oc2, om2, rel2⟩ := op_read (r.szr (z := H1.size)) (xs (6 * k + 1)) (xs (6 * k + 2))
  obtain ⟨rfl, rfl⟩ : r0 = r1 ∧ μ1 = μ2 := by
    rw [oc] at oc2
    cases oc2
    exact ⟨rfl, rfl⟩
  refine lv_aload_n hx hb dL_law_1287 rfl (lv_at hl 2 rfl) ?_
  refine ls_arg S tw1 hl hk (j := 1) (by omega) rfl dL_law_1288 dL_law_1289 dL_law_1290 dL_law_1291 dL_law_1292 ?_
  refine ls_arg S tw1 hl hk (j := 2) (by omega) rfl dL_law_1293 dL_law_1294 dL_law_1295 dL_law_1296 dL_law_1297 ?_
  refine lw_callV (As := [.int (xs (6 * k + 1)), .int (xs (6 * k + 2))]) (rest := [.int r0]) C hl.1 tw1.symm cb_L_150 cv_X10_read (k_X10_read rfl th om2) th rfl rfl ⟨by decide, by decide⟩ ⟨by show cells + 0 + 0 ≤ 600000; omega, by show slots + 0 + 0 ≤ 7302250; omega⟩ rfl (Nat.le_of_ble_eq_true rfl) dL_law_1298 (fun t => XA.of t.1) (fun H2 locs2 tw2 hz2 tp2 => ?_)
  have th2 : mT ν2 h = some (.inl 10) := (XA.of tp2.1).1 h _ th
  refine lv_icmp_eq (tgt := 1604) hx hb dL_law_1301 (by decide) (fun _ => ?_) (fun q => absurd rfl q)
  refine W.widen (k := cells + 4) (n := slots + 202) (by omega) (by omega) ?_
  exact kk H2 locs2 (sZ μ1 H2.size) ν2 ⟨tw2.symm, rel2.szl, tg1, th2, by omega, hl⟩
set_option maxHeartbeats 1000000 in
theorem lc_33 {p : Program} {l : Launch} {e : Env} {s : State} {m : MethodId} {below : List Frame} {meth : Method} {c : Code} {H : Heap} {locs : List Loc} {cells slots : Nat} {Q : State → Prop} {ls : Array Slot} {D : va_G} {E : Nat → ClassId} {tU b L g h k : Nat} {xs : Nat → Int32} {μ ν : XMem} (S : LSc p s c b L xs) (C : Cx p s m #[Value.ref b] c code 4 RL D E (fun q => s.heap.size ≤ q) tU) (I : LI D E s b g h μ ν H locs ls k) (hk : 6 * k + 6 ≤ L) (h1 : cells + 4 ≤ 600000) (h2 : slots + 202 ≤ 7302250)
    (kk : ∀ (H' : Heap) (locs' : List Loc) (μ' ν' : XMem), LI D E s b g h μ' ν' H' locs' ls k → W p l e room_1 s m #[Value.ref b] below meth c H' locs' (cells + 4) (slots + 202) Q (F0 m 1604 ls [])) :
    W p l e room_1 s m #[Value.ref b] below meth c H locs cells slots Q (F0 m 1306 ls []) := by
  obtain ⟨tw, r, tg, th, hz, hl⟩ := I
  have hx := S.1
  have hb := S.2.1
  obtain ⟨r0, μ1, -, oc, -, -⟩ := op_sheet r (xs (6 * k + 1)) (xs (6 * k + 2)) (xs (6 * k + 3))
  refine lv_aload_n hx hb dL_law_1306 rfl (lv_at hl 1 rfl) ?_
  refine ls_arg S tw hl hk (j := 1) (by omega) rfl dL_law_1307 dL_law_1308 dL_law_1309 dL_law_1310 dL_law_1311 ?_
  refine ls_arg S tw hl hk (j := 2) (by omega) rfl dL_law_1312 dL_law_1313 dL_law_1314 dL_law_1315 dL_law_1316 ?_
  refine ls_arg S tw hl hk (j := 3) (by omega) rfl dL_law_1317 dL_law_1318 dL_law_1319 dL_law_1320 dL_law_1321 ?_
  refine lw_callV (As := [.int (xs (6 * k + 1)), .int (xs (6 * k + 2)), .int (xs (6 * k + 3))]) (rest := []) C hl.1 tw cb_L_151 cv_X9_sheet (k_X9_sheet rfl tg oc) tg rfl rfl ⟨by decide, by decide⟩ ⟨by show cells + 0 ≤ 600000; omega, by show slots + 0 ≤ 7302250; omega⟩ rfl (Nat.le_of_ble_eq_true rfl) dL_law_1322 (fun t => XA.of t.1) (fun H1 locs1 tw1 hz1 tp1 => ?_)
  have tg1 : mT μ1 g = some (.inl 9) := (XA.of tp1.1).1 g _ tg
  obtain ⟨r1, μ2, ν2, oc2, om2, rel2⟩ := op_sheet (r.szr (z := H1.size)) (xs (6 * k + 1)) (xs (6 * k + 2)) (xs (6 * k + 3))
  obtain ⟨rfl, rfl⟩ : r0 = r1 ∧ μ1 = μ2 := by
    rw [oc] at oc2
    cases oc2
    exact ⟨rfl, rfl⟩
  refine lv_aload_n hx hb dL_law_1325 rfl (lv_at hl 2 rfl) ?_
  refine ls_arg S tw1 hl hk (j := 1) (by omega) rfl dL_law_1326 dL_law_1327 dL_law_1328 dL_law_1329 dL_law_1330 ?_
  refine ls_arg S tw1 hl hk (j := 2) (by omega) rfl dL_law_1331 dL_law_1332 dL_law_1333 dL_law_1334 dL_law_1335 ?_
  refine ls_arg S tw1 hl hk (j := 3) (by omega) rfl dL_law_1336 dL_law_1337 dL_law_1338 dL_law_1339 dL_law_1340 ?_
  refine lw_callV (As := [.int (xs (6 * k + 1)), .int (xs (6 * k + 2)), .int (xs (6 * k + 3))]) (rest := [.int r0]) C hl.1 tw1.symm cb_L_154 cv_X10_sheet (k_X10_sheet rfl th om2) th rfl rfl ⟨by decide, by decide⟩ ⟨by show cells + 0 + 0 ≤ 600000; omega, by show slots + 0 + 0 ≤ 7302250; omega⟩ rfl (Nat.le_of_ble_eq_true rfl) dL_law_1341 (fun t => XA.of t.1) (fun H2 locs2 tw2 hz2 tp2 => ?_)
  have th2 : mT ν2 h = some (.inl 10) := (XA.of tp2.1).1 h _ th
  refine lv_icmp_eq (tgt := 1604) hx hb dL_law_1344 (by decide) (fun _ => ?_) (fun q => absurd rfl q)
  refine W.widen (k := cells + 4) (n := slots + 202) (by omega) (by omega) ?_
  exact kk H2 locs2 (sZ μ1 H2.size) ν2 ⟨tw2.symm, rel2.szl, tg1, th2, by omega, hl⟩
set_option maxHeartbeats 1000000 in
theorem lc_34 {p : Program} {l : Launch} {e : Env} {s : State} {m : MethodId} {below : List Frame} {meth : Method} {c : Code} {H : Heap} {locs : List Loc} {cells slots : Nat} {Q : State → Prop} {ls : Array Slot} {D : va_G} {E : Nat → ClassId} {tU b L g h k : Nat} {xs : Nat → Int32} {μ ν : XMem} (S : LSc p s c b L xs) (C : Cx p s m #[Value.ref b] c code 4 RL D E (fun q => s.heap.size ≤ q) tU) (I : LI D E s b g h μ ν H locs ls k) (hk : 6 * k + 6 ≤ L) (h1 : cells + 4 ≤ 600000) (h2 : slots + 202 ≤ 7302250)
    (kk : ∀ (H' : Heap) (locs' : List Loc) (μ' ν' : XMem), LI D E s b g h μ' ν' H' locs' ls k → W p l e room_1 s m #[Value.ref b] below meth c H' locs' (cells + 4) (slots + 202) Q (F0 m 1604 ls [])) :
    W p l e room_1 s m #[Value.ref b] below meth c H locs cells slots Q (F0 m 1349 ls []) := by
  obtain ⟨tw, r, tg, th, hz, hl⟩ := I
  have hx := S.1
  have hb := S.2.1
  obtain ⟨r0, μ1, -, oc, -, -⟩ := op_write r (xs (6 * k + 1)) (xs (6 * k + 2)) (((Int32.toInt64 (xs (6 * k + 3))) <<< (Int32.toInt64 (32 : Int32) &&& 63)) ||| ((Int32.toInt64 (xs (6 * k + 4))) &&& (4294967295 : Int64)))
  refine lv_aload_n hx hb dL_law_1349 rfl (lv_at hl 1 rfl) ?_
  refine ls_arg S tw hl hk (j := 1) (by omega) rfl dL_law_1350 dL_law_1351 dL_law_1352 dL_law_1353 dL_law_1354 ?_
  refine ls_arg S tw hl hk (j := 2) (by omega) rfl dL_law_1355 dL_law_1356 dL_law_1357 dL_law_1358 dL_law_1359 ?_
  refine ls_arg S tw hl hk (j := 3) (by omega) rfl dL_law_1360 dL_law_1361 dL_law_1362 dL_law_1363 dL_law_1364 ?_
  refine lv_i2l (v := (Int32.toInt64 (xs (6 * k + 3)))) hx hb dL_law_1365 rfl ?_
  refine lv_bipush (v := 32) hx hb dL_law_1366 (by decide) ?_
  refine lv_lshl (v := ((Int32.toInt64 (xs (6 * k + 3))) <<< (Int32.toInt64 (32 : Int32) &&& 63))) hx hb dL_law_1368 rfl ?_
  refine ls_arg S tw hl hk (j := 4) (by omega) rfl dL_law_1369 dL_law_1370 dL_law_1371 dL_law_1372 dL_law_1373 ?_
  refine lv_i2l (v := (Int32.toInt64 (xs (6 * k + 4)))) hx hb dL_law_1374 rfl ?_
  refine lv_ldc2 (v := 4294967295) hx hb C.2.2.2.1 (C.2.2.2.2.1 _ kl_L_155) dL_law_1375 ?_
  refine lv_land hx hb dL_law_1378 ?_
  refine lv_lor hx hb dL_law_1379 ?_
  refine lw_callV (As := [.int (xs (6 * k + 1)), .int (xs (6 * k + 2)), .long (((Int32.toInt64 (xs (6 * k + 3))) <<< (Int32.toInt64 (32 : Int32) &&& 63)) ||| ((Int32.toInt64 (xs (6 * k + 4))) &&& (4294967295 : Int64)))]) (rest := []) C hl.1 tw cb_L_157 cv_X9_write (k_X9_write rfl tg oc) tg rfl rfl ⟨by decide, by decide⟩ ⟨by show cells + 0 ≤ 600000; omega, by show slots + 0 ≤ 7302250; omega⟩ rfl (Nat.le_of_ble_eq_true rfl) dL_law_1380 (fun t => XA.of t.1) (fun H1 locs1 tw1 hz1 tp1 => ?_)
  have tg1 : mT μ1 g = some (.inl 9) := (XA.of tp1.1).1 g _ tg
  obtain ⟨r1, μ2, ν2, oc2, om2, rel2⟩ := op_write (r.szr (z := H1.size)) (xs (6 * k + 1)) (xs (6 * k + 2)) (((Int32.toInt64 (xs (6 * k + 3))) <<< (Int32.toInt64 (32 : Int32) &&& 63)) ||| ((Int32.toInt64 (xs (6 * k + 4))) &&& (4294967295 : Int64)))
  obtain ⟨rfl, rfl⟩ : r0 = r1 ∧ μ1 = μ2 := by
    rw [oc] at oc2
    cases oc2
    exact ⟨rfl, rfl⟩
  refine lv_aload_n hx hb dL_law_1383 rfl (lv_at hl 2 rfl) ?_
  refine ls_arg S tw1 hl hk (j := 1) (by omega) rfl dL_law_1384 dL_law_1385 dL_law_1386 dL_law_1387 dL_law_1388 ?_
  refine ls_arg S tw1 hl hk (j := 2) (by omega) rfl dL_law_1389 dL_law_1390 dL_law_1391 dL_law_1392 dL_law_1393 ?_
  refine ls_arg S tw1 hl hk (j := 3) (by omega) rfl dL_law_1394 dL_law_1395 dL_law_1396 dL_law_1397 dL_law_1398 ?_
  refine lv_i2l (v := (Int32.toInt64 (xs (6 * k + 3)))) hx hb dL_law_1399 rfl ?_
  refine lv_bipush (v := 32) hx hb dL_law_1400 (by decide) ?_
  refine lv_lshl (v := ((Int32.toInt64 (xs (6 * k + 3))) <<< (Int32.toInt64 (32 : Int32) &&& 63))) hx hb dL_law_1402 rfl ?_
  refine ls_arg S tw1 hl hk (j := 4) (by omega) rfl dL_law_1403 dL_law_1404 dL_law_1405 dL_law_1406 dL_law_1407 ?_
  refine lv_i2l (v := (Int32.toInt64 (xs (6 * k + 4)))) hx hb dL_law_1408 rfl ?_
  refine lv_ldc2 (v := 4294967295) hx hb C.2.2.2.1 (C.2.2.2.2.1 _ kl_L_155) dL_law_1409 ?_
  refine lv_land hx hb dL_law_1412 ?_
  refine lv_lor hx hb dL_law_1413 ?_
  refine lw_callV (As := [.int (xs (6 * k + 1)), .int (xs (6 * k + 2)), .long (((Int32.toInt64 (xs (6 * k + 3))) <<< (Int32.toInt64 (32 : Int32) &&& 63)) ||| ((Int32.toInt64 (xs (6 * k + 4))) &&& (4294967295 : Int64)))]) (rest := [.long r0]) C hl.1 tw1.symm cb_L_161 cv_X10_write (k_X10_write rfl th om2) th rfl rfl ⟨by decide, by decide⟩ ⟨by show cells + 0 + 0 ≤ 600000; omega, by show slots + 0 + 0 ≤ 7302250; omega⟩ rfl (Nat.le_of_ble_eq_true rfl) dL_law_1414 (fun t => XA.of t.1) (fun H2 locs2 tw2 hz2 tp2 => ?_)
  have th2 : mT ν2 h = some (.inl 10) := (XA.of tp2.1).1 h _ th
  refine W.lcmp hx hb dL_law_1417 ?_
  refine lv_if_eq (tgt := 1604) hx hb dL_law_1418 (by decide) (fun _ => ?_) (fun q => absurd (lc_e r0) q)
  refine W.widen (k := cells + 4) (n := slots + 202) (by omega) (by omega) ?_
  exact kk H2 locs2 (sZ μ1 H2.size) ν2 ⟨tw2.symm, rel2.szl, tg1, th2, by omega, hl⟩
set_option maxHeartbeats 1000000 in
theorem lc_35 {p : Program} {l : Launch} {e : Env} {s : State} {m : MethodId} {below : List Frame} {meth : Method} {c : Code} {H : Heap} {locs : List Loc} {cells slots : Nat} {Q : State → Prop} {ls : Array Slot} {D : va_G} {E : Nat → ClassId} {tU b L g h k : Nat} {xs : Nat → Int32} {μ ν : XMem} (S : LSc p s c b L xs) (C : Cx p s m #[Value.ref b] c code 4 RL D E (fun q => s.heap.size ≤ q) tU) (I : LI D E s b g h μ ν H locs ls k) (hk : 6 * k + 6 ≤ L) (h1 : cells + 4 ≤ 600000) (h2 : slots + 202 ≤ 7302250)
    (kk : ∀ (H' : Heap) (locs' : List Loc) (μ' ν' : XMem), LI D E s b g h μ' ν' H' locs' ls k → W p l e room_1 s m #[Value.ref b] below meth c H' locs' (cells + 4) (slots + 202) Q (F0 m 1604 ls [])) :
    W p l e room_1 s m #[Value.ref b] below meth c H locs cells slots Q (F0 m 1423 ls []) := by
  obtain ⟨tw, r, tg, th, hz, hl⟩ := I
  have hx := S.1
  have hb := S.2.1
  obtain ⟨r0, μ1, -, oc, -, -⟩ := op_copy r (xs (6 * k + 1)) (xs (6 * k + 2)) (xs (6 * k + 3)) (xs (6 * k + 4)) (xs (6 * k + 5))
  refine lv_aload_n hx hb dL_law_1423 rfl (lv_at hl 1 rfl) ?_
  refine ls_arg S tw hl hk (j := 1) (by omega) rfl dL_law_1424 dL_law_1425 dL_law_1426 dL_law_1427 dL_law_1428 ?_
  refine ls_arg S tw hl hk (j := 2) (by omega) rfl dL_law_1429 dL_law_1430 dL_law_1431 dL_law_1432 dL_law_1433 ?_
  refine ls_arg S tw hl hk (j := 3) (by omega) rfl dL_law_1434 dL_law_1435 dL_law_1436 dL_law_1437 dL_law_1438 ?_
  refine ls_arg S tw hl hk (j := 4) (by omega) rfl dL_law_1439 dL_law_1440 dL_law_1441 dL_law_1442 dL_law_1443 ?_
  refine ls_arg S tw hl hk (j := 5) (by omega) rfl dL_law_1444 dL_law_1445 dL_law_1446 dL_law_1447 dL_law_1448 ?_
  refine lw_callV (As := [.int (xs (6 * k + 1)), .int (xs (6 * k + 2)), .int (xs (6 * k + 3)), .int (xs (6 * k + 4)), .int (xs (6 * k + 5))]) (rest := []) C hl.1 tw cb_L_162 cv_X9_copy (k_X9_copy rfl tg oc) tg rfl rfl ⟨by decide, by decide⟩ ⟨by show cells + 0 ≤ 600000; omega, by show slots + 0 ≤ 7302250; omega⟩ rfl (Nat.le_of_ble_eq_true rfl) dL_law_1449 (fun t => XA.of t.1) (fun H1 locs1 tw1 hz1 tp1 => ?_)
  have tg1 : mT μ1 g = some (.inl 9) := (XA.of tp1.1).1 g _ tg
  obtain ⟨r1, μ2, ν2, oc2, om2, rel2⟩ := op_copy (r.szr (z := H1.size)) (xs (6 * k + 1)) (xs (6 * k + 2)) (xs (6 * k + 3)) (xs (6 * k + 4)) (xs (6 * k + 5))
  obtain ⟨rfl, rfl⟩ : r0 = r1 ∧ μ1 = μ2 := by
    rw [oc] at oc2
    cases oc2
    exact ⟨rfl, rfl⟩
  refine lv_aload_n hx hb dL_law_1452 rfl (lv_at hl 2 rfl) ?_
  refine ls_arg S tw1 hl hk (j := 1) (by omega) rfl dL_law_1453 dL_law_1454 dL_law_1455 dL_law_1456 dL_law_1457 ?_
  refine ls_arg S tw1 hl hk (j := 2) (by omega) rfl dL_law_1458 dL_law_1459 dL_law_1460 dL_law_1461 dL_law_1462 ?_
  refine ls_arg S tw1 hl hk (j := 3) (by omega) rfl dL_law_1463 dL_law_1464 dL_law_1465 dL_law_1466 dL_law_1467 ?_
  refine ls_arg S tw1 hl hk (j := 4) (by omega) rfl dL_law_1468 dL_law_1469 dL_law_1470 dL_law_1471 dL_law_1472 ?_
  refine ls_arg S tw1 hl hk (j := 5) (by omega) rfl dL_law_1473 dL_law_1474 dL_law_1475 dL_law_1476 dL_law_1477 ?_
  refine lw_callV (As := [.int (xs (6 * k + 1)), .int (xs (6 * k + 2)), .int (xs (6 * k + 3)), .int (xs (6 * k + 4)), .int (xs (6 * k + 5))]) (rest := [.int r0]) C hl.1 tw1.symm cb_L_166 cv_X10_copy (k_X10_copy rfl th om2) th rfl rfl ⟨by decide, by decide⟩ ⟨by show cells + 0 + 0 ≤ 600000; omega, by show slots + 0 + 0 ≤ 7302250; omega⟩ rfl (Nat.le_of_ble_eq_true rfl) dL_law_1478 (fun t => XA.of t.1) (fun H2 locs2 tw2 hz2 tp2 => ?_)
  have th2 : mT ν2 h = some (.inl 10) := (XA.of tp2.1).1 h _ th
  refine lv_icmp_eq (tgt := 1604) hx hb dL_law_1481 (by decide) (fun _ => ?_) (fun q => absurd rfl q)
  refine W.widen (k := cells + 4) (n := slots + 202) (by omega) (by omega) ?_
  exact kk H2 locs2 (sZ μ1 H2.size) ν2 ⟨tw2.symm, rel2.szl, tg1, th2, by omega, hl⟩
set_option maxHeartbeats 1000000 in
theorem lc_36 {p : Program} {l : Launch} {e : Env} {s : State} {m : MethodId} {below : List Frame} {meth : Method} {c : Code} {H : Heap} {locs : List Loc} {cells slots : Nat} {Q : State → Prop} {ls : Array Slot} {D : va_G} {E : Nat → ClassId} {tU b L g h k : Nat} {xs : Nat → Int32} {μ ν : XMem} (S : LSc p s c b L xs) (C : Cx p s m #[Value.ref b] c code 4 RL D E (fun q => s.heap.size ≤ q) tU) (I : LI D E s b g h μ ν H locs ls k) (hk : 6 * k + 6 ≤ L) (h1 : cells + 4 ≤ 600000) (h2 : slots + 202 ≤ 7302250)
    (kk : ∀ (H' : Heap) (locs' : List Loc) (μ' ν' : XMem), LI D E s b g h μ' ν' H' locs' ls k → W p l e room_1 s m #[Value.ref b] below meth c H' locs' (cells + 4) (slots + 202) Q (F0 m 1604 ls [])) :
    W p l e room_1 s m #[Value.ref b] below meth c H locs cells slots Q (F0 m 1486 ls []) := by
  obtain ⟨tw, r, tg, th, hz, hl⟩ := I
  have hx := S.1
  have hb := S.2.1
  obtain ⟨r0, μ1, -, oc, -, -⟩ := op_weeks r (xs (6 * k + 1)) (xs (6 * k + 2))
  refine lv_aload_n hx hb dL_law_1486 rfl (lv_at hl 1 rfl) ?_
  refine ls_arg S tw hl hk (j := 1) (by omega) rfl dL_law_1487 dL_law_1488 dL_law_1489 dL_law_1490 dL_law_1491 ?_
  refine ls_arg S tw hl hk (j := 2) (by omega) rfl dL_law_1492 dL_law_1493 dL_law_1494 dL_law_1495 dL_law_1496 ?_
  refine lw_callV (As := [.int (xs (6 * k + 1)), .int (xs (6 * k + 2))]) (rest := []) C hl.1 tw cb_L_167 cv_X9_weeks (k_X9_weeks rfl tg oc) tg rfl rfl ⟨by decide, by decide⟩ ⟨by show cells + 0 ≤ 600000; omega, by show slots + 0 ≤ 7302250; omega⟩ rfl (Nat.le_of_ble_eq_true rfl) dL_law_1497 (fun t => XA.of t.1) (fun H1 locs1 tw1 hz1 tp1 => ?_)
  have tg1 : mT μ1 g = some (.inl 9) := (XA.of tp1.1).1 g _ tg
  obtain ⟨r1, μ2, ν2, oc2, om2, rel2⟩ := op_weeks (r.szr (z := H1.size)) (xs (6 * k + 1)) (xs (6 * k + 2))
  obtain ⟨rfl, rfl⟩ : r0 = r1 ∧ μ1 = μ2 := by
    rw [oc] at oc2
    cases oc2
    exact ⟨rfl, rfl⟩
  refine lv_aload_n hx hb dL_law_1500 rfl (lv_at hl 2 rfl) ?_
  refine ls_arg S tw1 hl hk (j := 1) (by omega) rfl dL_law_1501 dL_law_1502 dL_law_1503 dL_law_1504 dL_law_1505 ?_
  refine ls_arg S tw1 hl hk (j := 2) (by omega) rfl dL_law_1506 dL_law_1507 dL_law_1508 dL_law_1509 dL_law_1510 ?_
  refine lw_callV (As := [.int (xs (6 * k + 1)), .int (xs (6 * k + 2))]) (rest := [.int r0]) C hl.1 tw1.symm cb_L_170 cv_X10_weeks (k_X10_weeks rfl th om2) th rfl rfl ⟨by decide, by decide⟩ ⟨by show cells + 0 + 0 ≤ 600000; omega, by show slots + 0 + 0 ≤ 7302250; omega⟩ rfl (Nat.le_of_ble_eq_true rfl) dL_law_1511 (fun t => XA.of t.1) (fun H2 locs2 tw2 hz2 tp2 => ?_)
  have th2 : mT ν2 h = some (.inl 10) := (XA.of tp2.1).1 h _ th
  refine lv_icmp_eq (tgt := 1604) hx hb dL_law_1514 (by decide) (fun _ => ?_) (fun q => absurd rfl q)
  refine W.widen (k := cells + 4) (n := slots + 202) (by omega) (by omega) ?_
  exact kk H2 locs2 (sZ μ1 H2.size) ν2 ⟨tw2.symm, rel2.szl, tg1, th2, by omega, hl⟩
set_option maxHeartbeats 1000000 in
theorem lc_37 {p : Program} {l : Launch} {e : Env} {s : State} {m : MethodId} {below : List Frame} {meth : Method} {c : Code} {H : Heap} {locs : List Loc} {cells slots : Nat} {Q : State → Prop} {ls : Array Slot} {D : va_G} {E : Nat → ClassId} {tU b L g h k : Nat} {xs : Nat → Int32} {μ ν : XMem} (S : LSc p s c b L xs) (C : Cx p s m #[Value.ref b] c code 4 RL D E (fun q => s.heap.size ≤ q) tU) (I : LI D E s b g h μ ν H locs ls k) (hk : 6 * k + 6 ≤ L) (h1 : cells + 4 ≤ 600000) (h2 : slots + 202 ≤ 7302250)
    (kk : ∀ (H' : Heap) (locs' : List Loc) (μ' ν' : XMem), LI D E s b g h μ' ν' H' locs' ls k → W p l e room_1 s m #[Value.ref b] below meth c H' locs' (cells + 4) (slots + 202) Q (F0 m 1604 ls [])) :
    W p l e room_1 s m #[Value.ref b] below meth c H locs cells slots Q (F0 m 1519 ls []) := by
  obtain ⟨tw, r, tg, th, hz, hl⟩ := I
  have hx := S.1
  have hb := S.2.1
  obtain ⟨r0, μ1, -, oc, -, -⟩ := op_image r 
  refine lv_aload_n hx hb dL_law_1519 rfl (lv_at hl 1 rfl) ?_
  refine lw_callV (As := []) (rest := []) C hl.1 tw cb_L_171 cv_X9_image (k_X9_image rfl tg oc) tg rfl rfl ⟨by decide, by decide⟩ ⟨by show cells + 0 ≤ 600000; omega, by show slots + 0 ≤ 7302250; omega⟩ rfl (Nat.le_of_ble_eq_true rfl) dL_law_1520 (fun t => XA.of t.1) (fun H1 locs1 tw1 hz1 tp1 => ?_)
  have tg1 : mT μ1 g = some (.inl 9) := (XA.of tp1.1).1 g _ tg
  obtain ⟨r1, μ2, ν2, oc2, om2, rel2⟩ := op_image (r.szr (z := H1.size)) 
  obtain ⟨rfl, rfl⟩ : r0 = r1 ∧ μ1 = μ2 := by
    rw [oc] at oc2
    cases oc2
    exact ⟨rfl, rfl⟩
  refine lv_aload_n hx hb dL_law_1523 rfl (lv_at hl 2 rfl) ?_
  refine lw_callV (As := []) (rest := [.int r0]) C hl.1 tw1.symm cb_L_174 cv_X10_image (k_X10_image rfl th om2) th rfl rfl ⟨by decide, by decide⟩ ⟨by show cells + 0 + 0 ≤ 600000; omega, by show slots + 0 + 0 ≤ 7302250; omega⟩ rfl (Nat.le_of_ble_eq_true rfl) dL_law_1524 (fun t => XA.of t.1) (fun H2 locs2 tw2 hz2 tp2 => ?_)
  have th2 : mT ν2 h = some (.inl 10) := (XA.of tp2.1).1 h _ th
  refine lv_icmp_eq (tgt := 1604) hx hb dL_law_1527 (by decide) (fun _ => ?_) (fun q => absurd rfl q)
  refine W.widen (k := cells + 4) (n := slots + 202) (by omega) (by omega) ?_
  exact kk H2 locs2 (sZ μ1 H2.size) ν2 ⟨tw2.symm, rel2.szl, tg1, th2, by omega, hl⟩
set_option maxHeartbeats 1000000 in
theorem lc_38 {p : Program} {l : Launch} {e : Env} {s : State} {m : MethodId} {below : List Frame} {meth : Method} {c : Code} {H : Heap} {locs : List Loc} {cells slots : Nat} {Q : State → Prop} {ls : Array Slot} {D : va_G} {E : Nat → ClassId} {tU b L g h k : Nat} {xs : Nat → Int32} {μ ν : XMem} (S : LSc p s c b L xs) (C : Cx p s m #[Value.ref b] c code 4 RL D E (fun q => s.heap.size ≤ q) tU) (I : LI D E s b g h μ ν H locs ls k) (hk : 6 * k + 6 ≤ L) (h1 : cells + 4 ≤ 600000) (h2 : slots + 202 ≤ 7302250)
    (kk : ∀ (H' : Heap) (locs' : List Loc) (μ' ν' : XMem), LI D E s b g h μ' ν' H' locs' ls k → W p l e room_1 s m #[Value.ref b] below meth c H' locs' (cells + 4) (slots + 202) Q (F0 m 1604 ls [])) :
    W p l e room_1 s m #[Value.ref b] below meth c H locs cells slots Q (F0 m 1532 ls []) := by
  obtain ⟨tw, r, tg, th, hz, hl⟩ := I
  have hx := S.1
  have hb := S.2.1
  obtain ⟨r0, μ1, -, oc, -, -⟩ := op_undo r 
  refine lv_aload_n hx hb dL_law_1532 rfl (lv_at hl 1 rfl) ?_
  refine lw_callV (As := []) (rest := []) C hl.1 tw cb_L_175 cv_X9_undo (k_X9_undo rfl tg oc) tg rfl rfl ⟨by decide, by decide⟩ ⟨by show cells + 0 ≤ 600000; omega, by show slots + 0 ≤ 7302250; omega⟩ rfl (Nat.le_of_ble_eq_true rfl) dL_law_1533 (fun t => XA.of t.1) (fun H1 locs1 tw1 hz1 tp1 => ?_)
  have tg1 : mT μ1 g = some (.inl 9) := (XA.of tp1.1).1 g _ tg
  obtain ⟨r1, μ2, ν2, oc2, om2, rel2⟩ := op_undo (r.szr (z := H1.size)) 
  obtain ⟨rfl, rfl⟩ : r0 = r1 ∧ μ1 = μ2 := by
    rw [oc] at oc2
    cases oc2
    exact ⟨rfl, rfl⟩
  refine lv_aload_n hx hb dL_law_1536 rfl (lv_at hl 2 rfl) ?_
  refine lw_callV (As := []) (rest := [.int r0]) C hl.1 tw1.symm cb_L_178 cv_X10_undo (k_X10_undo rfl th om2) th rfl rfl ⟨by decide, by decide⟩ ⟨by show cells + 0 + 0 ≤ 600000; omega, by show slots + 0 + 0 ≤ 7302250; omega⟩ rfl (Nat.le_of_ble_eq_true rfl) dL_law_1537 (fun t => XA.of t.1) (fun H2 locs2 tw2 hz2 tp2 => ?_)
  have th2 : mT ν2 h = some (.inl 10) := (XA.of tp2.1).1 h _ th
  refine lv_icmp_eq (tgt := 1604) hx hb dL_law_1540 (by decide) (fun _ => ?_) (fun q => absurd rfl q)
  refine W.widen (k := cells + 4) (n := slots + 202) (by omega) (by omega) ?_
  exact kk H2 locs2 (sZ μ1 H2.size) ν2 ⟨tw2.symm, rel2.szl, tg1, th2, by omega, hl⟩
set_option maxHeartbeats 1000000 in
theorem lc_39 {p : Program} {l : Launch} {e : Env} {s : State} {m : MethodId} {below : List Frame} {meth : Method} {c : Code} {H : Heap} {locs : List Loc} {cells slots : Nat} {Q : State → Prop} {ls : Array Slot} {D : va_G} {E : Nat → ClassId} {tU b L g h k : Nat} {xs : Nat → Int32} {μ ν : XMem} (S : LSc p s c b L xs) (C : Cx p s m #[Value.ref b] c code 4 RL D E (fun q => s.heap.size ≤ q) tU) (I : LI D E s b g h μ ν H locs ls k) (hk : 6 * k + 6 ≤ L) (h1 : cells + 4 ≤ 600000) (h2 : slots + 202 ≤ 7302250)
    (kk : ∀ (H' : Heap) (locs' : List Loc) (μ' ν' : XMem), LI D E s b g h μ' ν' H' locs' ls k → W p l e room_1 s m #[Value.ref b] below meth c H' locs' (cells + 4) (slots + 202) Q (F0 m 1604 ls [])) :
    W p l e room_1 s m #[Value.ref b] below meth c H locs cells slots Q (F0 m 1545 ls []) := by
  obtain ⟨tw, r, tg, th, hz, hl⟩ := I
  have hx := S.1
  have hb := S.2.1
  obtain ⟨r0, μ1, -, oc, -, -⟩ := op_tear r 
  refine lv_aload_n hx hb dL_law_1545 rfl (lv_at hl 1 rfl) ?_
  refine lw_callV (As := []) (rest := []) C hl.1 tw cb_L_179 cv_X9_tear (k_X9_tear rfl tg oc) tg rfl rfl ⟨by decide, by decide⟩ ⟨by show cells + 0 ≤ 600000; omega, by show slots + 0 ≤ 7302250; omega⟩ rfl (Nat.le_of_ble_eq_true rfl) dL_law_1546 (fun t => XA.of t.1) (fun H1 locs1 tw1 hz1 tp1 => ?_)
  have tg1 : mT μ1 g = some (.inl 9) := (XA.of tp1.1).1 g _ tg
  obtain ⟨r1, μ2, ν2, oc2, om2, rel2⟩ := op_tear (r.szr (z := H1.size)) 
  obtain ⟨rfl, rfl⟩ : r0 = r1 ∧ μ1 = μ2 := by
    rw [oc] at oc2
    cases oc2
    exact ⟨rfl, rfl⟩
  refine lv_aload_n hx hb dL_law_1549 rfl (lv_at hl 2 rfl) ?_
  refine lw_callV (As := []) (rest := [.int r0]) C hl.1 tw1.symm cb_L_182 cv_X10_tear (k_X10_tear rfl th om2) th rfl rfl ⟨by decide, by decide⟩ ⟨by show cells + 0 + 0 ≤ 600000; omega, by show slots + 0 + 0 ≤ 7302250; omega⟩ rfl (Nat.le_of_ble_eq_true rfl) dL_law_1550 (fun t => XA.of t.1) (fun H2 locs2 tw2 hz2 tp2 => ?_)
  have th2 : mT ν2 h = some (.inl 10) := (XA.of tp2.1).1 h _ th
  refine lv_icmp_eq (tgt := 1604) hx hb dL_law_1553 (by decide) (fun _ => ?_) (fun q => absurd rfl q)
  refine W.widen (k := cells + 4) (n := slots + 202) (by omega) (by omega) ?_
  exact kk H2 locs2 (sZ μ1 H2.size) ν2 ⟨tw2.symm, rel2.szl, tg1, th2, by omega, hl⟩
set_option maxHeartbeats 1000000 in
theorem lc_40 {p : Program} {l : Launch} {e : Env} {s : State} {m : MethodId} {below : List Frame} {meth : Method} {c : Code} {H : Heap} {locs : List Loc} {cells slots : Nat} {Q : State → Prop} {ls : Array Slot} {D : va_G} {E : Nat → ClassId} {tU b L g h k : Nat} {xs : Nat → Int32} {μ ν : XMem} (S : LSc p s c b L xs) (C : Cx p s m #[Value.ref b] c code 4 RL D E (fun q => s.heap.size ≤ q) tU) (I : LI D E s b g h μ ν H locs ls k) (hk : 6 * k + 6 ≤ L) (h1 : cells + 4 ≤ 600000) (h2 : slots + 202 ≤ 7302250)
    (kk : ∀ (H' : Heap) (locs' : List Loc) (μ' ν' : XMem), LI D E s b g h μ' ν' H' locs' ls k → W p l e room_1 s m #[Value.ref b] below meth c H' locs' (cells + 4) (slots + 202) Q (F0 m 1604 ls [])) :
    W p l e room_1 s m #[Value.ref b] below meth c H locs cells slots Q (F0 m 1558 ls []) := by
  obtain ⟨tw, r, tg, th, hz, hl⟩ := I
  have hx := S.1
  have hb := S.2.1
  obtain ⟨r0, μ1, -, oc, -, -⟩ := op_count r (xs (6 * k + 1))
  refine lv_aload_n hx hb dL_law_1558 rfl (lv_at hl 1 rfl) ?_
  refine ls_arg S tw hl hk (j := 1) (by omega) rfl dL_law_1559 dL_law_1560 dL_law_1561 dL_law_1562 dL_law_1563 ?_
  refine lw_callV (As := [.int (xs (6 * k + 1))]) (rest := []) C hl.1 tw cb_L_183 cv_X9_count (k_X9_count rfl tg oc) tg rfl rfl ⟨by decide, by decide⟩ ⟨by show cells + 0 ≤ 600000; omega, by show slots + 0 ≤ 7302250; omega⟩ rfl (Nat.le_of_ble_eq_true rfl) dL_law_1564 (fun t => XA.of t.1) (fun H1 locs1 tw1 hz1 tp1 => ?_)
  have tg1 : mT μ1 g = some (.inl 9) := (XA.of tp1.1).1 g _ tg
  obtain ⟨r1, μ2, ν2, oc2, om2, rel2⟩ := op_count (r.szr (z := H1.size)) (xs (6 * k + 1))
  obtain ⟨rfl, rfl⟩ : r0 = r1 ∧ μ1 = μ2 := by
    rw [oc] at oc2
    cases oc2
    exact ⟨rfl, rfl⟩
  refine lv_aload_n hx hb dL_law_1567 rfl (lv_at hl 2 rfl) ?_
  refine ls_arg S tw1 hl hk (j := 1) (by omega) rfl dL_law_1568 dL_law_1569 dL_law_1570 dL_law_1571 dL_law_1572 ?_
  refine lw_callV (As := [.int (xs (6 * k + 1))]) (rest := [.int r0]) C hl.1 tw1.symm cb_L_186 cv_X10_count (k_X10_count rfl th om2) th rfl rfl ⟨by decide, by decide⟩ ⟨by show cells + 0 + 0 ≤ 600000; omega, by show slots + 0 + 0 ≤ 7302250; omega⟩ rfl (Nat.le_of_ble_eq_true rfl) dL_law_1573 (fun t => XA.of t.1) (fun H2 locs2 tw2 hz2 tp2 => ?_)
  have th2 : mT ν2 h = some (.inl 10) := (XA.of tp2.1).1 h _ th
  refine lv_icmp_eq (tgt := 1604) hx hb dL_law_1576 (by decide) (fun _ => ?_) (fun q => absurd rfl q)
  refine W.widen (k := cells + 4) (n := slots + 202) (by omega) (by omega) ?_
  exact kk H2 locs2 (sZ μ1 H2.size) ν2 ⟨tw2.symm, rel2.szl, tg1, th2, by omega, hl⟩
set_option maxHeartbeats 1000000 in
theorem lc_41 {p : Program} {l : Launch} {e : Env} {s : State} {m : MethodId} {below : List Frame} {meth : Method} {c : Code} {H : Heap} {locs : List Loc} {cells slots : Nat} {Q : State → Prop} {ls : Array Slot} {D : va_G} {E : Nat → ClassId} {tU b L g h k : Nat} {xs : Nat → Int32} {μ ν : XMem} (S : LSc p s c b L xs) (C : Cx p s m #[Value.ref b] c code 4 RL D E (fun q => s.heap.size ≤ q) tU) (I : LI D E s b g h μ ν H locs ls k) (hk : 6 * k + 6 ≤ L) (h1 : cells + 4 ≤ 600000) (h2 : slots + 202 ≤ 7302250)
    (kk : ∀ (H' : Heap) (locs' : List Loc) (μ' ν' : XMem), LI D E s b g h μ' ν' H' locs' ls k → W p l e room_1 s m #[Value.ref b] below meth c H' locs' (cells + 4) (slots + 202) Q (F0 m 1604 ls [])) :
    W p l e room_1 s m #[Value.ref b] below meth c H locs cells slots Q (F0 m 1581 ls []) := by
  obtain ⟨tw, r, tg, th, hz, hl⟩ := I
  have hx := S.1
  have hb := S.2.1
  obtain ⟨r0, μ1, -, oc, -, -⟩ := op_status r (xs (6 * k + 1))
  refine lv_aload_n hx hb dL_law_1581 rfl (lv_at hl 1 rfl) ?_
  refine ls_arg S tw hl hk (j := 1) (by omega) rfl dL_law_1582 dL_law_1583 dL_law_1584 dL_law_1585 dL_law_1586 ?_
  refine lw_callV (As := [.int (xs (6 * k + 1))]) (rest := []) C hl.1 tw cb_L_187 cv_X9_status (k_X9_status rfl tg oc) tg rfl rfl ⟨by decide, by decide⟩ ⟨by show cells + 0 ≤ 600000; omega, by show slots + 0 ≤ 7302250; omega⟩ rfl (Nat.le_of_ble_eq_true rfl) dL_law_1587 (fun t => XA.of t.1) (fun H1 locs1 tw1 hz1 tp1 => ?_)
  have tg1 : mT μ1 g = some (.inl 9) := (XA.of tp1.1).1 g _ tg
  obtain ⟨r1, μ2, ν2, oc2, om2, rel2⟩ := op_status (r.szr (z := H1.size)) (xs (6 * k + 1))
  obtain ⟨rfl, rfl⟩ : r0 = r1 ∧ μ1 = μ2 := by
    rw [oc] at oc2
    cases oc2
    exact ⟨rfl, rfl⟩
  refine lv_aload_n hx hb dL_law_1590 rfl (lv_at hl 2 rfl) ?_
  refine ls_arg S tw1 hl hk (j := 1) (by omega) rfl dL_law_1591 dL_law_1592 dL_law_1593 dL_law_1594 dL_law_1595 ?_
  refine lw_callV (As := [.int (xs (6 * k + 1))]) (rest := [.int r0]) C hl.1 tw1.symm cb_L_190 cv_X10_status (k_X10_status rfl th om2) th rfl rfl ⟨by decide, by decide⟩ ⟨by show cells + 0 + 0 ≤ 600000; omega, by show slots + 0 + 0 ≤ 7302250; omega⟩ rfl (Nat.le_of_ble_eq_true rfl) dL_law_1596 (fun t => XA.of t.1) (fun H2 locs2 tw2 hz2 tp2 => ?_)
  have th2 : mT ν2 h = some (.inl 10) := (XA.of tp2.1).1 h _ th
  refine lv_icmp_eq (tgt := 1604) hx hb dL_law_1599 (by decide) (fun _ => ?_) (fun q => absurd rfl q)
  refine W.widen (k := cells + 4) (n := slots + 202) (by omega) (by omega) ?_
  exact kk H2 locs2 (sZ μ1 H2.size) ν2 ⟨tw2.symm, rel2.szl, tg1, th2, by omega, hl⟩
