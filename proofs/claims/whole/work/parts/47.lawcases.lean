/-! the exceptions' numbers are small -/
theorem lt_type {q0 : Nat} {mm : Stt} : (oType q0 mm).1 < 4 := by
  unfold oType
  (repeat' split) <;> simp
theorem lt_typeMore {a0 : Int32} {a1 : Int32} {mm : Stt} : (oTypeMore a0 a1 mm).1 < 4 := by
  unfold oTypeMore
  (repeat' split) <;> simp
theorem lt_typeAt {a0 : Int32} {q1 : Nat} {mm : Stt} : (oTypeAt a0 q1 mm).1 < 4 := by
  unfold oTypeAt
  (repeat' split) <;> simp
theorem lt_drop  {mm : Stt} : (oDrop mm).1 < 4 := by
  unfold oDrop
  (repeat' split) <;> simp
theorem lt_clip {a0 : Int32} {a1 : Int32} {mm : Stt} : (oClip a0 a1 mm).1 < 4 := by
  unfold oClip
  (repeat' split) <;> simp
theorem lt_signAt {a0 : Int32} {mm : Stt} : (oSignAt a0 mm).1 < 4 := by
  unfold oSignAt
  (repeat' split) <;> simp
theorem lt_put {a0 : Int32} {mm : Stt} : (oPut a0 mm).1 < 4 := by
  unfold oPut
  (repeat' split) <;> simp
theorem lt_take  {mm : Stt} : (oTake mm).1 < 4 := by
  unfold oTake
  (repeat' split) <;> simp
theorem lt_number  {mm : Stt} : (oNumber mm).1 < 4 := by
  unfold oNumber
  (repeat' split) <;> simp
theorem lt_word {a0 : Int32} {mm : Stt} : (oWord a0 mm).1 < 4 := by
  unfold oWord
  (repeat' split) <;> simp
theorem lt_near {q0 : Nat} {mm : Stt} : (oNear q0 mm).1 < 4 := by
  unfold oNear
  (repeat' split) <;> simp
theorem lt_begunAt {a0 : Int32} {mm : Stt} : (oBegunAt a0 mm).1 < 4 := by
  unfold oBegunAt
  (repeat' split) <;> simp
theorem lt_longest {a0 : Int32} {mm : Stt} : (oLongest a0 mm).1 < 4 := by
  unfold oLongest
  (repeat' split) <;> simp
theorem lt_twin  {mm : Stt} : (oTwin mm).1 < 4 := by
  unfold oTwin
  (repeat' split) <;> simp
theorem lt_piece {a0 : Int32} {mm : Stt} : (oPiece a0 mm).1 < 4 := by
  unfold oPiece
  (repeat' split) <;> simp
theorem lt_code {q0 : Nat} {mm : Stt} : (oCode q0 mm).1 < 4 := by
  unfold oCode
  (repeat' split) <;> simp
theorem lt_write  {mm : Stt} : (oWrite mm).1 < 4 := by
  unfold oWrite
  (repeat' split) <;> simp
theorem lt_read  {mm : Stt} : (oRead mm).1 < 4 := by
  unfold oRead
  (repeat' split) <;> simp
theorem lt_writeAll  {mm : Stt} : (oWriteAll mm).1 < 4 := by
  unfold oWriteAll
  (repeat' split) <;> simp
section LAWK
variable {p : Program} {l : Launch} {e : Env} {s : State} {m : MethodId} {below : List Frame} {meth : Method} {c : Code} {cells slots : Nat} {Q : State → Prop} {b L i : Nat} {xs : Nat → Int32} {D : va_G} {ci : Nat → ClassId}
set_option maxHeartbeats 4000000 in
set_option maxRecDepth 100000 in
theorem case_type (hC : lw_C l p s m c b L xs D ci) (hi : i + 3 ≤ L) (hcs : cells + 1 ≤ 610757 ∧ slots + 6 ≤ 7263833) (k : Go p l e s m below meth c b D ci i (cells + 1) (slots + 6) Q 1375) : Go p l e s m below meth c b D ci i cells slots Q 180 := by
  intro H locs σ τ g mm ls hw hI hR hM hS hl
  obtain ⟨C0, hX, hbl, hK, hE, hN, hL, hlt⟩ := id hC
  obtain ⟨hx, hb, -, -, hts⟩ := id C0
  refine lv_aload_n hx hb dL_law_180 rfl (lv_at hl 1 rfl) ?_
  refine l_arg 1 0 4 hC hS hl rfl rfl (by omega) (by decide) dL_law_181 dL_law_182 dL_law_184 dL_law_185 dL_law_186 ?_
  obtain ⟨q0, hq0, e0⟩ := x31_char (xs (i + 1))
  refine lv_i2c hx hb dL_law_187 e0 ?_
  refine lv_aload_n hx hb dL_law_188 rfl (lv_at hl 3 rfl) ?_
  refine l_wcall (o := (oType q0 mm)) (vx_runSW (As := [.ref (adz s.heap.size 0), .int (nI q0), .ref (s.heap.size + 144)]) (rest := []) C0 (mL_type l hlt D (adz s.heap.size) ci (AC s.heap.size) (s.heap.size + 144) AC_out g σ mm hI hR q0 hq0) (vx_cwSW 3 hts gL_law_L_type rfl rfl rfl ddL_type ⟨Nat.le_of_ble_eq_true rfl, Nat.le_of_ble_eq_true rfl⟩) (l_wpre hK hE hN rfl hw hS) rfl rfl hl.1 rfl (lv_room (Nat.le_of_ble_eq_true rfl)) dL_law_189 ⟨hcs.1, hcs.2⟩) hw hS (fun H locs σ1 g1 h1 h2 h3 hw hS => ?_)
  refine lv_istore (lv' := (5, .int (nI (oType q0 mm).1)) :: Lv b s.heap.size i) hx hb dL_law_192 hl (by decide) rfl (fun ls hl => ?_)
  refine lv_aload_n hx hb dL_law_194 rfl (lv_at hl 3 rfl) ?_
  refine l_arg 1 1 5 hC hS hl rfl rfl (by omega) (by decide) dL_law_195 dL_law_196 dL_law_198 dL_law_199 dL_law_200 ?_
  refine lv_i2c hx hb dL_law_201 e0 ?_
  refine l_mcalli (fun u => u) (va_runV (As := [.int (nI q0)]) (rest := []) C0 (mX6_type l D (adM s.heap.size) ci (AM s.heap.size) τ (nI q0) (KM (oType q0 mm)) trivial (sM_type hM hq0 (OutM_K _))) (cwV 1 hts gL_law_X6_type rfl rfl rfl ddX6_type ⟨Nat.le_of_ble_eq_true rfl, Nat.le_of_ble_eq_true rfl⟩) (l_mpre hK hw) rfl rfl hl.1 rfl (lv_room (Nat.le_of_ble_eq_true rfl)) dL_law_202 ⟨hcs.1, hcs.2⟩) hw hS (fun r τ1 H locs h4 hw hS => ?_)
  refine lv_istore (lv' := (6, .int r) :: (5, .int (nI (oType q0 mm).1)) :: Lv b s.heap.size i) hx hb dL_law_205 hl (by decide) rfl (fun ls hl => ?_)
  exact l_tail hC hw hS h1 h2 h3 h4 lt_type hl hcs dL_law_207 dL_law_208 dL_law_211 dL_law_213 dL_law_218 dL_law_220 dL_law_223 dL_law_224 dL_law_225 dL_law_226 dL_law_228 dL_law_229 dL_law_230 dL_law_235 (by decide) k
set_option maxHeartbeats 4000000 in
set_option maxRecDepth 100000 in
theorem case_typeMore (hC : lw_C l p s m c b L xs D ci) (hi : i + 3 ≤ L) (hcs : cells + 1 ≤ 610757 ∧ slots + 6 ≤ 7263833) (k : Go p l e s m below meth c b D ci i (cells + 1) (slots + 6) Q 1375) : Go p l e s m below meth c b D ci i cells slots Q 238 := by
  intro H locs σ τ g mm ls hw hI hR hM hS hl
  obtain ⟨C0, hX, hbl, hK, hE, hN, hL, hlt⟩ := id hC
  obtain ⟨hx, hb, -, -, hts⟩ := id C0
  refine lv_aload_n hx hb dL_law_238 rfl (lv_at hl 1 rfl) ?_
  refine l_arg 1 0 4 hC hS hl rfl rfl (by omega) (by decide) dL_law_239 dL_law_240 dL_law_242 dL_law_243 dL_law_244 ?_
  refine l_arg 2 0 4 hC hS hl rfl rfl (by omega) (by decide) dL_law_245 dL_law_246 dL_law_248 dL_law_249 dL_law_250 ?_
  refine lv_aload_n hx hb dL_law_251 rfl (lv_at hl 3 rfl) ?_
  refine l_wcall (o := (oTypeMore (xs (i + 1)) (xs (i + 2)) mm)) (vx_runSW (As := [.ref (adz s.heap.size 0), .int (xs (i + 1)), .int (xs (i + 2)), .ref (s.heap.size + 144)]) (rest := []) C0 (mL_typeMore l hlt D (adz s.heap.size) ci (AC s.heap.size) (s.heap.size + 144) AC_out g σ mm hI hR (xs (i + 1)) (xs (i + 2))) (vx_cwSW 4 hts gL_law_L_typeMore rfl rfl rfl ddL_typeMore ⟨Nat.le_of_ble_eq_true rfl, Nat.le_of_ble_eq_true rfl⟩) (l_wpre hK hE hN rfl hw hS) rfl rfl hl.1 rfl (lv_room (Nat.le_of_ble_eq_true rfl)) dL_law_252 ⟨hcs.1, hcs.2⟩) hw hS (fun H locs σ1 g1 h1 h2 h3 hw hS => ?_)
  refine lv_istore (lv' := (5, .int (nI (oTypeMore (xs (i + 1)) (xs (i + 2)) mm).1)) :: Lv b s.heap.size i) hx hb dL_law_255 hl (by decide) rfl (fun ls hl => ?_)
  refine lv_aload_n hx hb dL_law_257 rfl (lv_at hl 3 rfl) ?_
  refine l_arg 1 1 5 hC hS hl rfl rfl (by omega) (by decide) dL_law_258 dL_law_259 dL_law_261 dL_law_262 dL_law_263 ?_
  refine l_arg 2 1 5 hC hS hl rfl rfl (by omega) (by decide) dL_law_264 dL_law_265 dL_law_267 dL_law_268 dL_law_269 ?_
  refine l_mcalli (fun u => u) (va_runV (As := [.int (xs (i + 1)), .int (xs (i + 2))]) (rest := []) C0 (mX6_typeMore l D (adM s.heap.size) ci (AM s.heap.size) τ (xs (i + 1)) (xs (i + 2)) (KM (oTypeMore (xs (i + 1)) (xs (i + 2)) mm)) trivial (sM_typeMore hM  (OutM_K _))) (cwV 2 hts gL_law_X6_typeMore rfl rfl rfl ddX6_typeMore ⟨Nat.le_of_ble_eq_true rfl, Nat.le_of_ble_eq_true rfl⟩) (l_mpre hK hw) rfl rfl hl.1 rfl (lv_room (Nat.le_of_ble_eq_true rfl)) dL_law_270 ⟨hcs.1, hcs.2⟩) hw hS (fun r τ1 H locs h4 hw hS => ?_)
  refine lv_istore (lv' := (6, .int r) :: (5, .int (nI (oTypeMore (xs (i + 1)) (xs (i + 2)) mm).1)) :: Lv b s.heap.size i) hx hb dL_law_273 hl (by decide) rfl (fun ls hl => ?_)
  exact l_tail hC hw hS h1 h2 h3 h4 lt_typeMore hl hcs dL_law_275 dL_law_276 dL_law_279 dL_law_281 dL_law_286 dL_law_288 dL_law_291 dL_law_292 dL_law_293 dL_law_294 dL_law_296 dL_law_297 dL_law_298 dL_law_303 (by decide) k
set_option maxHeartbeats 4000000 in
set_option maxRecDepth 100000 in
theorem case_typeAt (hC : lw_C l p s m c b L xs D ci) (hi : i + 3 ≤ L) (hcs : cells + 1 ≤ 610757 ∧ slots + 6 ≤ 7263833) (k : Go p l e s m below meth c b D ci i (cells + 1) (slots + 6) Q 1375) : Go p l e s m below meth c b D ci i cells slots Q 306 := by
  intro H locs σ τ g mm ls hw hI hR hM hS hl
  obtain ⟨C0, hX, hbl, hK, hE, hN, hL, hlt⟩ := id hC
  obtain ⟨hx, hb, -, -, hts⟩ := id C0
  refine lv_aload_n hx hb dL_law_306 rfl (lv_at hl 1 rfl) ?_
  refine l_arg 1 0 4 hC hS hl rfl rfl (by omega) (by decide) dL_law_307 dL_law_308 dL_law_310 dL_law_311 dL_law_312 ?_
  refine l_arg 2 0 4 hC hS hl rfl rfl (by omega) (by decide) dL_law_313 dL_law_314 dL_law_316 dL_law_317 dL_law_318 ?_
  obtain ⟨q1, hq1, e1⟩ := x31_char (xs (i + 2))
  refine lv_i2c hx hb dL_law_319 e1 ?_
  refine lv_aload_n hx hb dL_law_320 rfl (lv_at hl 3 rfl) ?_
  refine l_wcall (o := (oTypeAt (xs (i + 1)) q1 mm)) (vx_runSW (As := [.ref (adz s.heap.size 0), .int (xs (i + 1)), .int (nI q1), .ref (s.heap.size + 144)]) (rest := []) C0 (mL_typeAt l hlt D (adz s.heap.size) ci (AC s.heap.size) (s.heap.size + 144) AC_out g σ mm hI hR (xs (i + 1)) q1 hq1) (vx_cwSW 4 hts gL_law_L_typeAt rfl rfl rfl ddL_typeAt ⟨Nat.le_of_ble_eq_true rfl, Nat.le_of_ble_eq_true rfl⟩) (l_wpre hK hE hN rfl hw hS) rfl rfl hl.1 rfl (lv_room (Nat.le_of_ble_eq_true rfl)) dL_law_321 ⟨hcs.1, hcs.2⟩) hw hS (fun H locs σ1 g1 h1 h2 h3 hw hS => ?_)
  refine lv_istore (lv' := (5, .int (nI (oTypeAt (xs (i + 1)) q1 mm).1)) :: Lv b s.heap.size i) hx hb dL_law_324 hl (by decide) rfl (fun ls hl => ?_)
  refine lv_aload_n hx hb dL_law_326 rfl (lv_at hl 3 rfl) ?_
  refine l_arg 1 1 5 hC hS hl rfl rfl (by omega) (by decide) dL_law_327 dL_law_328 dL_law_330 dL_law_331 dL_law_332 ?_
  refine l_arg 2 1 5 hC hS hl rfl rfl (by omega) (by decide) dL_law_333 dL_law_334 dL_law_336 dL_law_337 dL_law_338 ?_
  refine lv_i2c hx hb dL_law_339 e1 ?_
  refine l_mcalli (fun u => u) (va_runV (As := [.int (xs (i + 1)), .int (nI q1)]) (rest := []) C0 (mX6_typeAt l D (adM s.heap.size) ci (AM s.heap.size) τ (xs (i + 1)) (nI q1) (KM (oTypeAt (xs (i + 1)) q1 mm)) trivial (sM_typeAt hM hq1 (OutM_K _))) (cwV 2 hts gL_law_X6_typeAt rfl rfl rfl ddX6_typeAt ⟨Nat.le_of_ble_eq_true rfl, Nat.le_of_ble_eq_true rfl⟩) (l_mpre hK hw) rfl rfl hl.1 rfl (lv_room (Nat.le_of_ble_eq_true rfl)) dL_law_340 ⟨hcs.1, hcs.2⟩) hw hS (fun r τ1 H locs h4 hw hS => ?_)
  refine lv_istore (lv' := (6, .int r) :: (5, .int (nI (oTypeAt (xs (i + 1)) q1 mm).1)) :: Lv b s.heap.size i) hx hb dL_law_343 hl (by decide) rfl (fun ls hl => ?_)
  exact l_tail hC hw hS h1 h2 h3 h4 lt_typeAt hl hcs dL_law_345 dL_law_346 dL_law_349 dL_law_351 dL_law_356 dL_law_358 dL_law_361 dL_law_362 dL_law_363 dL_law_364 dL_law_366 dL_law_367 dL_law_368 dL_law_373 (by decide) k
set_option maxHeartbeats 4000000 in
set_option maxRecDepth 100000 in
theorem case_drop (hC : lw_C l p s m c b L xs D ci) (hi : i + 3 ≤ L) (hcs : cells + 1 ≤ 610757 ∧ slots + 6 ≤ 7263833) (k : Go p l e s m below meth c b D ci i (cells + 1) (slots + 6) Q 1375) : Go p l e s m below meth c b D ci i cells slots Q 376 := by
  intro H locs σ τ g mm ls hw hI hR hM hS hl
  obtain ⟨C0, hX, hbl, hK, hE, hN, hL, hlt⟩ := id hC
  obtain ⟨hx, hb, -, -, hts⟩ := id C0
  refine lv_aload_n hx hb dL_law_376 rfl (lv_at hl 1 rfl) ?_
  refine lv_aload_n hx hb dL_law_377 rfl (lv_at hl 3 rfl) ?_
  refine l_wcall (o := (oDrop mm)) (vx_runSW (As := [.ref (adz s.heap.size 0), .ref (s.heap.size + 144)]) (rest := []) C0 (mL_drop l hlt D (adz s.heap.size) ci (AC s.heap.size) (s.heap.size + 144) AC_out g σ mm hI hR ) (vx_cwSW 2 hts gL_law_L_drop rfl rfl rfl ddL_drop ⟨Nat.le_of_ble_eq_true rfl, Nat.le_of_ble_eq_true rfl⟩) (l_wpre hK hE hN rfl hw hS) rfl rfl hl.1 rfl (lv_room (Nat.le_of_ble_eq_true rfl)) dL_law_378 ⟨hcs.1, hcs.2⟩) hw hS (fun H locs σ1 g1 h1 h2 h3 hw hS => ?_)
  refine lv_istore (lv' := (5, .int (nI (oDrop mm).1)) :: Lv b s.heap.size i) hx hb dL_law_381 hl (by decide) rfl (fun ls hl => ?_)
  refine lv_aload_n hx hb dL_law_383 rfl (lv_at hl 3 rfl) ?_
  refine l_mcalli (fun u => u) (va_runV (As := []) (rest := []) C0 (mX6_drop l D (adM s.heap.size) ci (AM s.heap.size) τ  (KM (oDrop mm)) trivial (sM_drop hM  (OutM_K _))) (cwV 0 hts gL_law_X6_drop rfl rfl rfl ddX6_drop ⟨Nat.le_of_ble_eq_true rfl, Nat.le_of_ble_eq_true rfl⟩) (l_mpre hK hw) rfl rfl hl.1 rfl (lv_room (Nat.le_of_ble_eq_true rfl)) dL_law_384 ⟨hcs.1, hcs.2⟩) hw hS (fun r τ1 H locs h4 hw hS => ?_)
  refine lv_istore (lv' := (6, .int r) :: (5, .int (nI (oDrop mm).1)) :: Lv b s.heap.size i) hx hb dL_law_387 hl (by decide) rfl (fun ls hl => ?_)
  exact l_tail hC hw hS h1 h2 h3 h4 lt_drop hl hcs dL_law_389 dL_law_390 dL_law_393 dL_law_395 dL_law_400 dL_law_402 dL_law_405 dL_law_406 dL_law_407 dL_law_408 dL_law_410 dL_law_411 dL_law_412 dL_law_417 (by decide) k
set_option maxHeartbeats 4000000 in
set_option maxRecDepth 100000 in
theorem case_clip (hC : lw_C l p s m c b L xs D ci) (hi : i + 3 ≤ L) (hcs : cells + 1 ≤ 610757 ∧ slots + 6 ≤ 7263833) (k : Go p l e s m below meth c b D ci i (cells + 1) (slots + 6) Q 1375) : Go p l e s m below meth c b D ci i cells slots Q 420 := by
  intro H locs σ τ g mm ls hw hI hR hM hS hl
  obtain ⟨C0, hX, hbl, hK, hE, hN, hL, hlt⟩ := id hC
  obtain ⟨hx, hb, -, -, hts⟩ := id C0
  refine lv_aload_n hx hb dL_law_420 rfl (lv_at hl 1 rfl) ?_
  refine l_arg 1 0 4 hC hS hl rfl rfl (by omega) (by decide) dL_law_421 dL_law_422 dL_law_424 dL_law_425 dL_law_426 ?_
  refine l_arg 2 0 4 hC hS hl rfl rfl (by omega) (by decide) dL_law_427 dL_law_428 dL_law_430 dL_law_431 dL_law_432 ?_
  refine lv_aload_n hx hb dL_law_433 rfl (lv_at hl 3 rfl) ?_
  refine l_wcall (o := (oClip (xs (i + 1)) (xs (i + 2)) mm)) (vx_runSW (As := [.ref (adz s.heap.size 0), .int (xs (i + 1)), .int (xs (i + 2)), .ref (s.heap.size + 144)]) (rest := []) C0 (mL_clip l hlt D (adz s.heap.size) ci (AC s.heap.size) (s.heap.size + 144) AC_out g σ mm hI hR (xs (i + 1)) (xs (i + 2))) (vx_cwSW 4 hts gL_law_L_clip rfl rfl rfl ddL_clip ⟨Nat.le_of_ble_eq_true rfl, Nat.le_of_ble_eq_true rfl⟩) (l_wpre hK hE hN rfl hw hS) rfl rfl hl.1 rfl (lv_room (Nat.le_of_ble_eq_true rfl)) dL_law_434 ⟨hcs.1, hcs.2⟩) hw hS (fun H locs σ1 g1 h1 h2 h3 hw hS => ?_)
  refine lv_istore (lv' := (5, .int (nI (oClip (xs (i + 1)) (xs (i + 2)) mm).1)) :: Lv b s.heap.size i) hx hb dL_law_437 hl (by decide) rfl (fun ls hl => ?_)
  refine lv_aload_n hx hb dL_law_439 rfl (lv_at hl 3 rfl) ?_
  refine l_arg 1 1 5 hC hS hl rfl rfl (by omega) (by decide) dL_law_440 dL_law_441 dL_law_443 dL_law_444 dL_law_445 ?_
  refine l_arg 2 1 5 hC hS hl rfl rfl (by omega) (by decide) dL_law_446 dL_law_447 dL_law_449 dL_law_450 dL_law_451 ?_
  refine l_mcalli (fun u => u) (va_runV (As := [.int (xs (i + 1)), .int (xs (i + 2))]) (rest := []) C0 (mX6_clip l D (adM s.heap.size) ci (AM s.heap.size) τ (xs (i + 1)) (xs (i + 2)) (KM (oClip (xs (i + 1)) (xs (i + 2)) mm)) trivial (sM_clip hM  (OutM_K _))) (cwV 2 hts gL_law_X6_clip rfl rfl rfl ddX6_clip ⟨Nat.le_of_ble_eq_true rfl, Nat.le_of_ble_eq_true rfl⟩) (l_mpre hK hw) rfl rfl hl.1 rfl (lv_room (Nat.le_of_ble_eq_true rfl)) dL_law_452 ⟨hcs.1, hcs.2⟩) hw hS (fun r τ1 H locs h4 hw hS => ?_)
  refine lv_istore (lv' := (6, .int r) :: (5, .int (nI (oClip (xs (i + 1)) (xs (i + 2)) mm).1)) :: Lv b s.heap.size i) hx hb dL_law_455 hl (by decide) rfl (fun ls hl => ?_)
  exact l_tail hC hw hS h1 h2 h3 h4 lt_clip hl hcs dL_law_457 dL_law_458 dL_law_461 dL_law_463 dL_law_468 dL_law_470 dL_law_473 dL_law_474 dL_law_475 dL_law_476 dL_law_478 dL_law_479 dL_law_480 dL_law_485 (by decide) k
set_option maxHeartbeats 4000000 in
set_option maxRecDepth 100000 in
theorem case_signAt (hC : lw_C l p s m c b L xs D ci) (hi : i + 3 ≤ L) (hcs : cells + 1 ≤ 610757 ∧ slots + 6 ≤ 7263833) (k : Go p l e s m below meth c b D ci i (cells + 1) (slots + 6) Q 1375) : Go p l e s m below meth c b D ci i cells slots Q 514 := by
  intro H locs σ τ g mm ls hw hI hR hM hS hl
  obtain ⟨C0, hX, hbl, hK, hE, hN, hL, hlt⟩ := id hC
  obtain ⟨hx, hb, -, -, hts⟩ := id C0
  refine lv_aload_n hx hb dL_law_514 rfl (lv_at hl 1 rfl) ?_
  refine l_arg 1 0 4 hC hS hl rfl rfl (by omega) (by decide) dL_law_515 dL_law_516 dL_law_518 dL_law_519 dL_law_520 ?_
  refine lv_aload_n hx hb dL_law_521 rfl (lv_at hl 3 rfl) ?_
  refine l_wcall (o := (oSignAt (xs (i + 1)) mm)) (vx_runSW (As := [.ref (adz s.heap.size 0), .int (xs (i + 1)), .ref (s.heap.size + 144)]) (rest := []) C0 (mL_signAt l hlt D (adz s.heap.size) ci (AC s.heap.size) (s.heap.size + 144) AC_out g σ mm hI hR (xs (i + 1))) (vx_cwSW 3 hts gL_law_L_signAt rfl rfl rfl ddL_signAt ⟨Nat.le_of_ble_eq_true rfl, Nat.le_of_ble_eq_true rfl⟩) (l_wpre hK hE hN rfl hw hS) rfl rfl hl.1 rfl (lv_room (Nat.le_of_ble_eq_true rfl)) dL_law_522 ⟨hcs.1, hcs.2⟩) hw hS (fun H locs σ1 g1 h1 h2 h3 hw hS => ?_)
  refine lv_istore (lv' := (5, .int (nI (oSignAt (xs (i + 1)) mm).1)) :: Lv b s.heap.size i) hx hb dL_law_525 hl (by decide) rfl (fun ls hl => ?_)
  refine lv_aload_n hx hb dL_law_527 rfl (lv_at hl 3 rfl) ?_
  refine l_arg 1 1 5 hC hS hl rfl rfl (by omega) (by decide) dL_law_528 dL_law_529 dL_law_531 dL_law_532 dL_law_533 ?_
  refine l_mcalli (fun u => u) (va_runV (As := [.int (xs (i + 1))]) (rest := []) C0 (mX6_signAt l D (adM s.heap.size) ci (AM s.heap.size) τ (xs (i + 1)) (KM (oSignAt (xs (i + 1)) mm)) trivial (sM_signAt hM  (OutM_K _))) (cwV 1 hts gL_law_X6_signAt rfl rfl rfl ddX6_signAt ⟨Nat.le_of_ble_eq_true rfl, Nat.le_of_ble_eq_true rfl⟩) (l_mpre hK hw) rfl rfl hl.1 rfl (lv_room (Nat.le_of_ble_eq_true rfl)) dL_law_534 ⟨hcs.1, hcs.2⟩) hw hS (fun r τ1 H locs h4 hw hS => ?_)
  refine lv_istore (lv' := (6, .int r) :: (5, .int (nI (oSignAt (xs (i + 1)) mm).1)) :: Lv b s.heap.size i) hx hb dL_law_537 hl (by decide) rfl (fun ls hl => ?_)
  exact l_tail hC hw hS h1 h2 h3 h4.2 lt_signAt hl hcs dL_law_539 dL_law_540 dL_law_543 dL_law_545 dL_law_550 dL_law_552 dL_law_555 dL_law_556 dL_law_557 dL_law_558 dL_law_560 dL_law_561 dL_law_562 dL_law_567 (by decide) k
set_option maxHeartbeats 4000000 in
set_option maxRecDepth 100000 in
theorem case_put (hC : lw_C l p s m c b L xs D ci) (hi : i + 3 ≤ L) (hcs : cells + 1 ≤ 610757 ∧ slots + 6 ≤ 7263833) (k : Go p l e s m below meth c b D ci i (cells + 1) (slots + 6) Q 1375) : Go p l e s m below meth c b D ci i cells slots Q 570 := by
  intro H locs σ τ g mm ls hw hI hR hM hS hl
  obtain ⟨C0, hX, hbl, hK, hE, hN, hL, hlt⟩ := id hC
  obtain ⟨hx, hb, -, -, hts⟩ := id C0
  refine lv_aload_n hx hb dL_law_570 rfl (lv_at hl 1 rfl) ?_
  refine l_arg 1 0 4 hC hS hl rfl rfl (by omega) (by decide) dL_law_571 dL_law_572 dL_law_574 dL_law_575 dL_law_576 ?_
  refine lv_aload_n hx hb dL_law_577 rfl (lv_at hl 3 rfl) ?_
  refine l_wcall (o := (oPut (xs (i + 1)) mm)) (vx_runSW (As := [.ref (adz s.heap.size 0), .int (xs (i + 1)), .ref (s.heap.size + 144)]) (rest := []) C0 (mL_put l hlt D (adz s.heap.size) ci (AC s.heap.size) (s.heap.size + 144) AC_out g σ mm hI hR (xs (i + 1))) (vx_cwSW 3 hts gL_law_L_put rfl rfl rfl ddL_put ⟨Nat.le_of_ble_eq_true rfl, Nat.le_of_ble_eq_true rfl⟩) (l_wpre hK hE hN rfl hw hS) rfl rfl hl.1 rfl (lv_room (Nat.le_of_ble_eq_true rfl)) dL_law_578 ⟨hcs.1, hcs.2⟩) hw hS (fun H locs σ1 g1 h1 h2 h3 hw hS => ?_)
  refine lv_istore (lv' := (5, .int (nI (oPut (xs (i + 1)) mm).1)) :: Lv b s.heap.size i) hx hb dL_law_581 hl (by decide) rfl (fun ls hl => ?_)
  refine lv_aload_n hx hb dL_law_583 rfl (lv_at hl 3 rfl) ?_
  refine l_arg 1 1 5 hC hS hl rfl rfl (by omega) (by decide) dL_law_584 dL_law_585 dL_law_587 dL_law_588 dL_law_589 ?_
  refine l_mcalli (fun u => u) (va_runV (As := [.int (xs (i + 1))]) (rest := []) C0 (mX6_put l D (adM s.heap.size) ci (AM s.heap.size) τ (xs (i + 1)) (KM (oPut (xs (i + 1)) mm)) trivial (sM_put hM  (OutM_K _))) (cwV 1 hts gL_law_X6_put rfl rfl rfl ddX6_put ⟨Nat.le_of_ble_eq_true rfl, Nat.le_of_ble_eq_true rfl⟩) (l_mpre hK hw) rfl rfl hl.1 rfl (lv_room (Nat.le_of_ble_eq_true rfl)) dL_law_590 ⟨hcs.1, hcs.2⟩) hw hS (fun r τ1 H locs h4 hw hS => ?_)
  refine lv_istore (lv' := (6, .int r) :: (5, .int (nI (oPut (xs (i + 1)) mm).1)) :: Lv b s.heap.size i) hx hb dL_law_593 hl (by decide) rfl (fun ls hl => ?_)
  exact l_tail hC hw hS h1 h2 h3 h4 lt_put hl hcs dL_law_595 dL_law_596 dL_law_599 dL_law_601 dL_law_606 dL_law_608 dL_law_611 dL_law_612 dL_law_613 dL_law_614 dL_law_616 dL_law_617 dL_law_618 dL_law_623 (by decide) k
set_option maxHeartbeats 4000000 in
set_option maxRecDepth 100000 in
theorem case_take (hC : lw_C l p s m c b L xs D ci) (hi : i + 3 ≤ L) (hcs : cells + 1 ≤ 610757 ∧ slots + 6 ≤ 7263833) (k : Go p l e s m below meth c b D ci i (cells + 1) (slots + 6) Q 1375) : Go p l e s m below meth c b D ci i cells slots Q 626 := by
  intro H locs σ τ g mm ls hw hI hR hM hS hl
  obtain ⟨C0, hX, hbl, hK, hE, hN, hL, hlt⟩ := id hC
  obtain ⟨hx, hb, -, -, hts⟩ := id C0
  refine lv_aload_n hx hb dL_law_626 rfl (lv_at hl 1 rfl) ?_
  refine lv_aload_n hx hb dL_law_627 rfl (lv_at hl 3 rfl) ?_
  refine l_wcall (o := (oTake mm)) (vx_runSW (As := [.ref (adz s.heap.size 0), .ref (s.heap.size + 144)]) (rest := []) C0 (mL_take l hlt D (adz s.heap.size) ci (AC s.heap.size) (s.heap.size + 144) AC_out g σ mm hI hR ) (vx_cwSW 2 hts gL_law_L_take rfl rfl rfl ddL_take ⟨Nat.le_of_ble_eq_true rfl, Nat.le_of_ble_eq_true rfl⟩) (l_wpre hK hE hN rfl hw hS) rfl rfl hl.1 rfl (lv_room (Nat.le_of_ble_eq_true rfl)) dL_law_628 ⟨hcs.1, hcs.2⟩) hw hS (fun H locs σ1 g1 h1 h2 h3 hw hS => ?_)
  refine lv_istore (lv' := (5, .int (nI (oTake mm).1)) :: Lv b s.heap.size i) hx hb dL_law_631 hl (by decide) rfl (fun ls hl => ?_)
  refine lv_aload_n hx hb dL_law_633 rfl (lv_at hl 3 rfl) ?_
  refine l_mcalli (fun u => u) (va_runV (As := []) (rest := []) C0 (mX6_take l D (adM s.heap.size) ci (AM s.heap.size) τ  (KM (oTake mm)) trivial (sM_take hM  (OutM_K _))) (cwV 0 hts gL_law_X6_take rfl rfl rfl ddX6_take ⟨Nat.le_of_ble_eq_true rfl, Nat.le_of_ble_eq_true rfl⟩) (l_mpre hK hw) rfl rfl hl.1 rfl (lv_room (Nat.le_of_ble_eq_true rfl)) dL_law_634 ⟨hcs.1, hcs.2⟩) hw hS (fun r τ1 H locs h4 hw hS => ?_)
  refine lv_istore (lv' := (6, .int r) :: (5, .int (nI (oTake mm).1)) :: Lv b s.heap.size i) hx hb dL_law_637 hl (by decide) rfl (fun ls hl => ?_)
  exact l_tail hC hw hS h1 h2 h3 h4 lt_take hl hcs dL_law_639 dL_law_640 dL_law_643 dL_law_645 dL_law_650 dL_law_652 dL_law_655 dL_law_656 dL_law_657 dL_law_658 dL_law_660 dL_law_661 dL_law_662 dL_law_667 (by decide) k
set_option maxHeartbeats 4000000 in
set_option maxRecDepth 100000 in
theorem case_number (hC : lw_C l p s m c b L xs D ci) (hi : i + 3 ≤ L) (hcs : cells + 1 ≤ 610757 ∧ slots + 6 ≤ 7263833) (k : Go p l e s m below meth c b D ci i (cells + 1) (slots + 6) Q 1375) : Go p l e s m below meth c b D ci i cells slots Q 670 := by
  intro H locs σ τ g mm ls hw hI hR hM hS hl
  obtain ⟨C0, hX, hbl, hK, hE, hN, hL, hlt⟩ := id hC
  obtain ⟨hx, hb, -, -, hts⟩ := id C0
  refine lv_aload_n hx hb dL_law_670 rfl (lv_at hl 1 rfl) ?_
  refine lv_aload_n hx hb dL_law_671 rfl (lv_at hl 3 rfl) ?_
  refine l_wcall (o := (oNumber mm)) (vx_runSW (As := [.ref (adz s.heap.size 0), .ref (s.heap.size + 144)]) (rest := []) C0 (mL_number l hlt D (adz s.heap.size) ci (AC s.heap.size) (s.heap.size + 144) AC_out g σ mm hI hR ) (vx_cwSW 2 hts gL_law_L_number rfl rfl rfl ddL_number ⟨Nat.le_of_ble_eq_true rfl, Nat.le_of_ble_eq_true rfl⟩) (l_wpre hK hE hN rfl hw hS) rfl rfl hl.1 rfl (lv_room (Nat.le_of_ble_eq_true rfl)) dL_law_672 ⟨hcs.1, hcs.2⟩) hw hS (fun H locs σ1 g1 h1 h2 h3 hw hS => ?_)
  refine lv_istore (lv' := (5, .int (nI (oNumber mm).1)) :: Lv b s.heap.size i) hx hb dL_law_675 hl (by decide) rfl (fun ls hl => ?_)
  refine lv_aload_n hx hb dL_law_677 rfl (lv_at hl 3 rfl) ?_
  refine l_mcalli (fun u => u) (va_runV (As := []) (rest := []) C0 (mX6_number l D (adM s.heap.size) ci (AM s.heap.size) τ  (KM (oNumber mm)) trivial (sM_number hM  (OutM_K _))) (cwV 0 hts gL_law_X6_number rfl rfl rfl ddX6_number ⟨Nat.le_of_ble_eq_true rfl, Nat.le_of_ble_eq_true rfl⟩) (l_mpre hK hw) rfl rfl hl.1 rfl (lv_room (Nat.le_of_ble_eq_true rfl)) dL_law_678 ⟨hcs.1, hcs.2⟩) hw hS (fun r τ1 H locs h4 hw hS => ?_)
  refine lv_istore (lv' := (6, .int r) :: (5, .int (nI (oNumber mm).1)) :: Lv b s.heap.size i) hx hb dL_law_681 hl (by decide) rfl (fun ls hl => ?_)
  exact l_tail hC hw hS h1 h2 h3 h4 lt_number hl hcs dL_law_683 dL_law_684 dL_law_687 dL_law_689 dL_law_694 dL_law_696 dL_law_699 dL_law_700 dL_law_701 dL_law_702 dL_law_704 dL_law_705 dL_law_706 dL_law_711 (by decide) k
set_option maxHeartbeats 4000000 in
set_option maxRecDepth 100000 in
theorem case_word (hC : lw_C l p s m c b L xs D ci) (hi : i + 3 ≤ L) (hcs : cells + 1 ≤ 610757 ∧ slots + 6 ≤ 7263833) (k : Go p l e s m below meth c b D ci i (cells + 1) (slots + 6) Q 1375) : Go p l e s m below meth c b D ci i cells slots Q 740 := by
  intro H locs σ τ g mm ls hw hI hR hM hS hl
  obtain ⟨C0, hX, hbl, hK, hE, hN, hL, hlt⟩ := id hC
  obtain ⟨hx, hb, -, -, hts⟩ := id C0
  refine lv_aload_n hx hb dL_law_740 rfl (lv_at hl 1 rfl) ?_
  refine l_arg 1 0 4 hC hS hl rfl rfl (by omega) (by decide) dL_law_741 dL_law_742 dL_law_744 dL_law_745 dL_law_746 ?_
  refine lv_aload_n hx hb dL_law_747 rfl (lv_at hl 3 rfl) ?_
  refine l_wcall (o := (oWord (xs (i + 1)) mm)) (vx_runSW (As := [.ref (adz s.heap.size 0), .int (xs (i + 1)), .ref (s.heap.size + 144)]) (rest := []) C0 (mL_word l hlt D (adz s.heap.size) ci (AC s.heap.size) (s.heap.size + 144) AC_out g σ mm hI hR (xs (i + 1))) (vx_cwSW 3 hts gL_law_L_word rfl rfl rfl ddL_word ⟨Nat.le_of_ble_eq_true rfl, Nat.le_of_ble_eq_true rfl⟩) (l_wpre hK hE hN rfl hw hS) rfl rfl hl.1 rfl (lv_room (Nat.le_of_ble_eq_true rfl)) dL_law_748 ⟨hcs.1, hcs.2⟩) hw hS (fun H locs σ1 g1 h1 h2 h3 hw hS => ?_)
  refine lv_istore (lv' := (5, .int (nI (oWord (xs (i + 1)) mm).1)) :: Lv b s.heap.size i) hx hb dL_law_751 hl (by decide) rfl (fun ls hl => ?_)
  refine lv_aload_n hx hb dL_law_753 rfl (lv_at hl 3 rfl) ?_
  refine l_arg 1 1 5 hC hS hl rfl rfl (by omega) (by decide) dL_law_754 dL_law_755 dL_law_757 dL_law_758 dL_law_759 ?_
  refine l_mcalli (fun u => u) (va_runV (As := [.int (xs (i + 1))]) (rest := []) C0 (mX6_word l D (adM s.heap.size) ci (AM s.heap.size) τ (xs (i + 1)) (KM (oWord (xs (i + 1)) mm)) trivial (sM_word hM  (OutM_K _))) (cwV 1 hts gL_law_X6_word rfl rfl rfl ddX6_word ⟨Nat.le_of_ble_eq_true rfl, Nat.le_of_ble_eq_true rfl⟩) (l_mpre hK hw) rfl rfl hl.1 rfl (lv_room (Nat.le_of_ble_eq_true rfl)) dL_law_760 ⟨hcs.1, hcs.2⟩) hw hS (fun r τ1 H locs h4 hw hS => ?_)
  refine lv_istore (lv' := (6, .int r) :: (5, .int (nI (oWord (xs (i + 1)) mm).1)) :: Lv b s.heap.size i) hx hb dL_law_763 hl (by decide) rfl (fun ls hl => ?_)
  exact l_tail hC hw hS h1 h2 h3 h4 lt_word hl hcs dL_law_765 dL_law_766 dL_law_769 dL_law_771 dL_law_776 dL_law_778 dL_law_781 dL_law_782 dL_law_783 dL_law_784 dL_law_786 dL_law_787 dL_law_788 dL_law_793 (by decide) k
set_option maxHeartbeats 4000000 in
set_option maxRecDepth 100000 in
theorem case_near (hC : lw_C l p s m c b L xs D ci) (hi : i + 3 ≤ L) (hcs : cells + 1 ≤ 610757 ∧ slots + 6 ≤ 7263833) (k : Go p l e s m below meth c b D ci i (cells + 1) (slots + 6) Q 1375) : Go p l e s m below meth c b D ci i cells slots Q 796 := by
  intro H locs σ τ g mm ls hw hI hR hM hS hl
  obtain ⟨C0, hX, hbl, hK, hE, hN, hL, hlt⟩ := id hC
  obtain ⟨hx, hb, -, -, hts⟩ := id C0
  refine lv_aload_n hx hb dL_law_796 rfl (lv_at hl 1 rfl) ?_
  refine l_arg 1 0 4 hC hS hl rfl rfl (by omega) (by decide) dL_law_797 dL_law_798 dL_law_800 dL_law_801 dL_law_802 ?_
  obtain ⟨q0, hq0, e0⟩ := x31_char (xs (i + 1))
  refine lv_i2c hx hb dL_law_803 e0 ?_
  refine lv_aload_n hx hb dL_law_804 rfl (lv_at hl 3 rfl) ?_
  refine l_wcall (o := (oNear q0 mm)) (vx_runSW (As := [.ref (adz s.heap.size 0), .int (nI q0), .ref (s.heap.size + 144)]) (rest := []) C0 (mL_near l hlt D (adz s.heap.size) ci (AC s.heap.size) (s.heap.size + 144) AC_out g σ mm hI hR q0 hq0) (vx_cwSW 3 hts gL_law_L_near rfl rfl rfl ddL_near ⟨Nat.le_of_ble_eq_true rfl, Nat.le_of_ble_eq_true rfl⟩) (l_wpre hK hE hN rfl hw hS) rfl rfl hl.1 rfl (lv_room (Nat.le_of_ble_eq_true rfl)) dL_law_805 ⟨hcs.1, hcs.2⟩) hw hS (fun H locs σ1 g1 h1 h2 h3 hw hS => ?_)
  refine lv_istore (lv' := (5, .int (nI (oNear q0 mm).1)) :: Lv b s.heap.size i) hx hb dL_law_808 hl (by decide) rfl (fun ls hl => ?_)
  refine lv_aload_n hx hb dL_law_810 rfl (lv_at hl 3 rfl) ?_
  refine l_arg 1 1 5 hC hS hl rfl rfl (by omega) (by decide) dL_law_811 dL_law_812 dL_law_814 dL_law_815 dL_law_816 ?_
  refine lv_i2c hx hb dL_law_817 e0 ?_
  refine l_mcalli (fun u => u) (va_runV (As := [.int (nI q0)]) (rest := []) C0 (mX6_near l D (adM s.heap.size) ci (AM s.heap.size) τ (nI q0) (KM (oNear q0 mm)) trivial (sM_near hM hq0 (OutM_K _))) (cwV 1 hts gL_law_X6_near rfl rfl rfl ddX6_near ⟨Nat.le_of_ble_eq_true rfl, Nat.le_of_ble_eq_true rfl⟩) (l_mpre hK hw) rfl rfl hl.1 rfl (lv_room (Nat.le_of_ble_eq_true rfl)) dL_law_818 ⟨hcs.1, hcs.2⟩) hw hS (fun r τ1 H locs h4 hw hS => ?_)
  refine lv_istore (lv' := (6, .int r) :: (5, .int (nI (oNear q0 mm).1)) :: Lv b s.heap.size i) hx hb dL_law_821 hl (by decide) rfl (fun ls hl => ?_)
  exact l_tail hC hw hS h1 h2 h3 h4 lt_near hl hcs dL_law_823 dL_law_824 dL_law_827 dL_law_829 dL_law_834 dL_law_836 dL_law_839 dL_law_840 dL_law_841 dL_law_842 dL_law_844 dL_law_845 dL_law_846 dL_law_851 (by decide) k
set_option maxHeartbeats 4000000 in
set_option maxRecDepth 100000 in
theorem case_begunAt (hC : lw_C l p s m c b L xs D ci) (hi : i + 3 ≤ L) (hcs : cells + 1 ≤ 610757 ∧ slots + 6 ≤ 7263833) (k : Go p l e s m below meth c b D ci i (cells + 1) (slots + 6) Q 1375) : Go p l e s m below meth c b D ci i cells slots Q 867 := by
  intro H locs σ τ g mm ls hw hI hR hM hS hl
  obtain ⟨C0, hX, hbl, hK, hE, hN, hL, hlt⟩ := id hC
  obtain ⟨hx, hb, -, -, hts⟩ := id C0
  refine lv_aload_n hx hb dL_law_867 rfl (lv_at hl 1 rfl) ?_
  refine l_arg 1 0 4 hC hS hl rfl rfl (by omega) (by decide) dL_law_868 dL_law_869 dL_law_871 dL_law_872 dL_law_873 ?_
  refine lv_aload_n hx hb dL_law_874 rfl (lv_at hl 3 rfl) ?_
  refine l_wcall (o := (oBegunAt (xs (i + 1)) mm)) (vx_runSW (As := [.ref (adz s.heap.size 0), .int (xs (i + 1)), .ref (s.heap.size + 144)]) (rest := []) C0 (mL_begunAt l hlt D (adz s.heap.size) ci (AC s.heap.size) (s.heap.size + 144) AC_out g σ mm hI hR (xs (i + 1))) (vx_cwSW 3 hts gL_law_L_begunAt rfl rfl rfl ddL_begunAt ⟨Nat.le_of_ble_eq_true rfl, Nat.le_of_ble_eq_true rfl⟩) (l_wpre hK hE hN rfl hw hS) rfl rfl hl.1 rfl (lv_room (Nat.le_of_ble_eq_true rfl)) dL_law_875 ⟨hcs.1, hcs.2⟩) hw hS (fun H locs σ1 g1 h1 h2 h3 hw hS => ?_)
  refine lv_istore (lv' := (5, .int (nI (oBegunAt (xs (i + 1)) mm).1)) :: Lv b s.heap.size i) hx hb dL_law_878 hl (by decide) rfl (fun ls hl => ?_)
  refine lv_aload_n hx hb dL_law_880 rfl (lv_at hl 3 rfl) ?_
  refine l_arg 1 1 5 hC hS hl rfl rfl (by omega) (by decide) dL_law_881 dL_law_882 dL_law_884 dL_law_885 dL_law_886 ?_
  refine l_mcalli (fun u => u) (va_runV (As := [.int (xs (i + 1))]) (rest := []) C0 (mX6_begunAt l D (adM s.heap.size) ci (AM s.heap.size) τ (xs (i + 1)) (KM (oBegunAt (xs (i + 1)) mm)) trivial (sM_begunAt hM  (OutM_K _))) (cwV 1 hts gL_law_X6_begunAt rfl rfl rfl ddX6_begunAt ⟨Nat.le_of_ble_eq_true rfl, Nat.le_of_ble_eq_true rfl⟩) (l_mpre hK hw) rfl rfl hl.1 rfl (lv_room (Nat.le_of_ble_eq_true rfl)) dL_law_887 ⟨hcs.1, hcs.2⟩) hw hS (fun r τ1 H locs h4 hw hS => ?_)
  refine lv_istore (lv' := (6, .int r) :: (5, .int (nI (oBegunAt (xs (i + 1)) mm).1)) :: Lv b s.heap.size i) hx hb dL_law_890 hl (by decide) rfl (fun ls hl => ?_)
  exact l_tail hC hw hS h1 h2 h3 h4 lt_begunAt hl hcs dL_law_892 dL_law_893 dL_law_896 dL_law_898 dL_law_903 dL_law_905 dL_law_908 dL_law_909 dL_law_910 dL_law_911 dL_law_913 dL_law_914 dL_law_915 dL_law_920 (by decide) k
set_option maxHeartbeats 4000000 in
set_option maxRecDepth 100000 in
theorem case_longest (hC : lw_C l p s m c b L xs D ci) (hi : i + 3 ≤ L) (hcs : cells + 1 ≤ 610757 ∧ slots + 6 ≤ 7263833) (k : Go p l e s m below meth c b D ci i (cells + 1) (slots + 6) Q 1375) : Go p l e s m below meth c b D ci i cells slots Q 949 := by
  intro H locs σ τ g mm ls hw hI hR hM hS hl
  obtain ⟨C0, hX, hbl, hK, hE, hN, hL, hlt⟩ := id hC
  obtain ⟨hx, hb, -, -, hts⟩ := id C0
  refine lv_aload_n hx hb dL_law_949 rfl (lv_at hl 1 rfl) ?_
  refine l_arg 1 0 4 hC hS hl rfl rfl (by omega) (by decide) dL_law_950 dL_law_951 dL_law_953 dL_law_954 dL_law_955 ?_
  refine lv_aload_n hx hb dL_law_956 rfl (lv_at hl 3 rfl) ?_
  refine l_wcall (o := (oLongest (xs (i + 1)) mm)) (vx_runSW (As := [.ref (adz s.heap.size 0), .int (xs (i + 1)), .ref (s.heap.size + 144)]) (rest := []) C0 (mL_longest l hlt D (adz s.heap.size) ci (AC s.heap.size) (s.heap.size + 144) AC_out g σ mm hI hR (xs (i + 1))) (vx_cwSW 3 hts gL_law_L_longest rfl rfl rfl ddL_longest ⟨Nat.le_of_ble_eq_true rfl, Nat.le_of_ble_eq_true rfl⟩) (l_wpre hK hE hN rfl hw hS) rfl rfl hl.1 rfl (lv_room (Nat.le_of_ble_eq_true rfl)) dL_law_957 ⟨hcs.1, hcs.2⟩) hw hS (fun H locs σ1 g1 h1 h2 h3 hw hS => ?_)
  refine lv_istore (lv' := (5, .int (nI (oLongest (xs (i + 1)) mm).1)) :: Lv b s.heap.size i) hx hb dL_law_960 hl (by decide) rfl (fun ls hl => ?_)
  refine lv_aload_n hx hb dL_law_962 rfl (lv_at hl 3 rfl) ?_
  refine l_arg 1 1 5 hC hS hl rfl rfl (by omega) (by decide) dL_law_963 dL_law_964 dL_law_966 dL_law_967 dL_law_968 ?_
  refine l_mcalli (fun u => u) (va_runV (As := [.int (xs (i + 1))]) (rest := []) C0 (mX6_longest l D (adM s.heap.size) ci (AM s.heap.size) τ (xs (i + 1)) (KM (oLongest (xs (i + 1)) mm)) trivial (sM_longest hM  (OutM_K _))) (cwV 1 hts gL_law_X6_longest rfl rfl rfl ddX6_longest ⟨Nat.le_of_ble_eq_true rfl, Nat.le_of_ble_eq_true rfl⟩) (l_mpre hK hw) rfl rfl hl.1 rfl (lv_room (Nat.le_of_ble_eq_true rfl)) dL_law_969 ⟨hcs.1, hcs.2⟩) hw hS (fun r τ1 H locs h4 hw hS => ?_)
  refine lv_istore (lv' := (6, .int r) :: (5, .int (nI (oLongest (xs (i + 1)) mm).1)) :: Lv b s.heap.size i) hx hb dL_law_972 hl (by decide) rfl (fun ls hl => ?_)
  exact l_tail hC hw hS h1 h2 h3 h4 lt_longest hl hcs dL_law_974 dL_law_975 dL_law_978 dL_law_980 dL_law_985 dL_law_987 dL_law_990 dL_law_991 dL_law_992 dL_law_993 dL_law_995 dL_law_996 dL_law_997 dL_law_1002 (by decide) k
set_option maxHeartbeats 4000000 in
set_option maxRecDepth 100000 in
theorem case_twin (hC : lw_C l p s m c b L xs D ci) (hi : i + 3 ≤ L) (hcs : cells + 1 ≤ 610757 ∧ slots + 6 ≤ 7263833) (k : Go p l e s m below meth c b D ci i (cells + 1) (slots + 6) Q 1375) : Go p l e s m below meth c b D ci i cells slots Q 1018 := by
  intro H locs σ τ g mm ls hw hI hR hM hS hl
  obtain ⟨C0, hX, hbl, hK, hE, hN, hL, hlt⟩ := id hC
  obtain ⟨hx, hb, -, -, hts⟩ := id C0
  refine lv_aload_n hx hb dL_law_1018 rfl (lv_at hl 1 rfl) ?_
  refine lv_aload_n hx hb dL_law_1019 rfl (lv_at hl 3 rfl) ?_
  refine l_wcall (o := (oTwin mm)) (vx_runSW (As := [.ref (adz s.heap.size 0), .ref (s.heap.size + 144)]) (rest := []) C0 (mL_twin l hlt D (adz s.heap.size) ci (AC s.heap.size) (s.heap.size + 144) AC_out g σ mm hI hR ) (vx_cwSW 2 hts gL_law_L_twin rfl rfl rfl ddL_twin ⟨Nat.le_of_ble_eq_true rfl, Nat.le_of_ble_eq_true rfl⟩) (l_wpre hK hE hN rfl hw hS) rfl rfl hl.1 rfl (lv_room (Nat.le_of_ble_eq_true rfl)) dL_law_1020 ⟨hcs.1, hcs.2⟩) hw hS (fun H locs σ1 g1 h1 h2 h3 hw hS => ?_)
  refine lv_istore (lv' := (5, .int (nI (oTwin mm).1)) :: Lv b s.heap.size i) hx hb dL_law_1023 hl (by decide) rfl (fun ls hl => ?_)
  refine lv_aload_n hx hb dL_law_1025 rfl (lv_at hl 3 rfl) ?_
  refine l_mcalli (fun u => u) (va_runV (As := []) (rest := []) C0 (mX6_twin l D (adM s.heap.size) ci (AM s.heap.size) τ  (KM (oTwin mm)) trivial (sM_twin hM  (OutM_K _))) (cwV 0 hts gL_law_X6_twin rfl rfl rfl ddX6_twin ⟨Nat.le_of_ble_eq_true rfl, Nat.le_of_ble_eq_true rfl⟩) (l_mpre hK hw) rfl rfl hl.1 rfl (lv_room (Nat.le_of_ble_eq_true rfl)) dL_law_1026 ⟨hcs.1, hcs.2⟩) hw hS (fun r τ1 H locs h4 hw hS => ?_)
  refine lv_istore (lv' := (6, .int r) :: (5, .int (nI (oTwin mm).1)) :: Lv b s.heap.size i) hx hb dL_law_1029 hl (by decide) rfl (fun ls hl => ?_)
  exact l_tail hC hw hS h1 h2 h3 h4 lt_twin hl hcs dL_law_1031 dL_law_1032 dL_law_1035 dL_law_1037 dL_law_1042 dL_law_1044 dL_law_1047 dL_law_1048 dL_law_1049 dL_law_1050 dL_law_1052 dL_law_1053 dL_law_1054 dL_law_1059 (by decide) k
set_option maxHeartbeats 4000000 in
set_option maxRecDepth 100000 in
theorem case_piece (hC : lw_C l p s m c b L xs D ci) (hi : i + 3 ≤ L) (hcs : cells + 1 ≤ 610757 ∧ slots + 6 ≤ 7263833) (k : Go p l e s m below meth c b D ci i (cells + 1) (slots + 6) Q 1375) : Go p l e s m below meth c b D ci i cells slots Q 1075 := by
  intro H locs σ τ g mm ls hw hI hR hM hS hl
  obtain ⟨C0, hX, hbl, hK, hE, hN, hL, hlt⟩ := id hC
  obtain ⟨hx, hb, -, -, hts⟩ := id C0
  refine lv_aload_n hx hb dL_law_1075 rfl (lv_at hl 1 rfl) ?_
  refine l_arg 1 0 4 hC hS hl rfl rfl (by omega) (by decide) dL_law_1076 dL_law_1077 dL_law_1079 dL_law_1080 dL_law_1081 ?_
  refine lv_aload_n hx hb dL_law_1082 rfl (lv_at hl 3 rfl) ?_
  refine l_wcall (o := (oPiece (xs (i + 1)) mm)) (vx_runSW (As := [.ref (adz s.heap.size 0), .int (xs (i + 1)), .ref (s.heap.size + 144)]) (rest := []) C0 (mL_piece l hlt D (adz s.heap.size) ci (AC s.heap.size) (s.heap.size + 144) AC_out g σ mm hI hR (xs (i + 1))) (vx_cwSW 3 hts gL_law_L_piece rfl rfl rfl ddL_piece ⟨Nat.le_of_ble_eq_true rfl, Nat.le_of_ble_eq_true rfl⟩) (l_wpre hK hE hN rfl hw hS) rfl rfl hl.1 rfl (lv_room (Nat.le_of_ble_eq_true rfl)) dL_law_1083 ⟨hcs.1, hcs.2⟩) hw hS (fun H locs σ1 g1 h1 h2 h3 hw hS => ?_)
  refine lv_istore (lv' := (5, .int (nI (oPiece (xs (i + 1)) mm).1)) :: Lv b s.heap.size i) hx hb dL_law_1086 hl (by decide) rfl (fun ls hl => ?_)
  refine lv_aload_n hx hb dL_law_1088 rfl (lv_at hl 3 rfl) ?_
  refine l_arg 1 1 5 hC hS hl rfl rfl (by omega) (by decide) dL_law_1089 dL_law_1090 dL_law_1092 dL_law_1093 dL_law_1094 ?_
  refine l_mcalli (fun u => u) (va_runV (As := [.int (xs (i + 1))]) (rest := []) C0 (mX6_piece l D (adM s.heap.size) ci (AM s.heap.size) τ (xs (i + 1)) (KM (oPiece (xs (i + 1)) mm)) trivial (sM_piece hM  (OutM_K _))) (cwV 1 hts gL_law_X6_piece rfl rfl rfl ddX6_piece ⟨Nat.le_of_ble_eq_true rfl, Nat.le_of_ble_eq_true rfl⟩) (l_mpre hK hw) rfl rfl hl.1 rfl (lv_room (Nat.le_of_ble_eq_true rfl)) dL_law_1095 ⟨hcs.1, hcs.2⟩) hw hS (fun r τ1 H locs h4 hw hS => ?_)
  refine lv_istore (lv' := (6, .int r) :: (5, .int (nI (oPiece (xs (i + 1)) mm).1)) :: Lv b s.heap.size i) hx hb dL_law_1098 hl (by decide) rfl (fun ls hl => ?_)
  exact l_tail hC hw hS h1 h2 h3 h4 lt_piece hl hcs dL_law_1100 dL_law_1101 dL_law_1104 dL_law_1106 dL_law_1111 dL_law_1113 dL_law_1116 dL_law_1117 dL_law_1118 dL_law_1119 dL_law_1121 dL_law_1122 dL_law_1123 dL_law_1128 (by decide) k
set_option maxHeartbeats 4000000 in
set_option maxRecDepth 100000 in
theorem case_code (hC : lw_C l p s m c b L xs D ci) (hi : i + 3 ≤ L) (hcs : cells + 1 ≤ 610757 ∧ slots + 6 ≤ 7263833) (k : Go p l e s m below meth c b D ci i (cells + 1) (slots + 6) Q 1375) : Go p l e s m below meth c b D ci i cells slots Q 1158 := by
  intro H locs σ τ g mm ls hw hI hR hM hS hl
  obtain ⟨C0, hX, hbl, hK, hE, hN, hL, hlt⟩ := id hC
  obtain ⟨hx, hb, -, -, hts⟩ := id C0
  refine lv_aload_n hx hb dL_law_1158 rfl (lv_at hl 1 rfl) ?_
  refine l_arg 1 0 4 hC hS hl rfl rfl (by omega) (by decide) dL_law_1159 dL_law_1160 dL_law_1162 dL_law_1163 dL_law_1164 ?_
  obtain ⟨q0, hq0, e0⟩ := x31_char (xs (i + 1))
  refine lv_i2c hx hb dL_law_1165 e0 ?_
  refine lv_aload_n hx hb dL_law_1166 rfl (lv_at hl 3 rfl) ?_
  refine l_wcall (o := (oCode q0 mm)) (vx_runSW (As := [.ref (adz s.heap.size 0), .int (nI q0), .ref (s.heap.size + 144)]) (rest := []) C0 (mL_code l hlt D (adz s.heap.size) ci (AC s.heap.size) (s.heap.size + 144) AC_out g σ mm hI hR q0 hq0) (vx_cwSW 3 hts gL_law_L_code rfl rfl rfl ddL_code ⟨Nat.le_of_ble_eq_true rfl, Nat.le_of_ble_eq_true rfl⟩) (l_wpre hK hE hN rfl hw hS) rfl rfl hl.1 rfl (lv_room (Nat.le_of_ble_eq_true rfl)) dL_law_1167 ⟨hcs.1, hcs.2⟩) hw hS (fun H locs σ1 g1 h1 h2 h3 hw hS => ?_)
  refine lv_istore (lv' := (5, .int (nI (oCode q0 mm).1)) :: Lv b s.heap.size i) hx hb dL_law_1170 hl (by decide) rfl (fun ls hl => ?_)
  refine lv_aload_n hx hb dL_law_1172 rfl (lv_at hl 3 rfl) ?_
  refine l_arg 1 1 5 hC hS hl rfl rfl (by omega) (by decide) dL_law_1173 dL_law_1174 dL_law_1176 dL_law_1177 dL_law_1178 ?_
  refine lv_i2c hx hb dL_law_1179 e0 ?_
  refine l_mcalli (fun u => u) (va_runV (As := [.int (nI q0)]) (rest := []) C0 (mX6_code l D (adM s.heap.size) ci (AM s.heap.size) τ (nI q0) (KM (oCode q0 mm)) trivial (sM_code hM hq0 (OutM_K _))) (cwV 1 hts gL_law_X6_code rfl rfl rfl ddX6_code ⟨Nat.le_of_ble_eq_true rfl, Nat.le_of_ble_eq_true rfl⟩) (l_mpre hK hw) rfl rfl hl.1 rfl (lv_room (Nat.le_of_ble_eq_true rfl)) dL_law_1180 ⟨hcs.1, hcs.2⟩) hw hS (fun r τ1 H locs h4 hw hS => ?_)
  refine lv_istore (lv' := (6, .int r) :: (5, .int (nI (oCode q0 mm).1)) :: Lv b s.heap.size i) hx hb dL_law_1183 hl (by decide) rfl (fun ls hl => ?_)
  exact l_tail hC hw hS h1 h2 h3 h4 lt_code hl hcs dL_law_1185 dL_law_1186 dL_law_1189 dL_law_1191 dL_law_1196 dL_law_1198 dL_law_1201 dL_law_1202 dL_law_1203 dL_law_1204 dL_law_1206 dL_law_1207 dL_law_1208 dL_law_1213 (by decide) k
set_option maxHeartbeats 4000000 in
set_option maxRecDepth 100000 in
theorem case_write (hC : lw_C l p s m c b L xs D ci) (hi : i + 3 ≤ L) (hcs : cells + 1 ≤ 610757 ∧ slots + 6 ≤ 7263833) (k : Go p l e s m below meth c b D ci i (cells + 1) (slots + 6) Q 1375) : Go p l e s m below meth c b D ci i cells slots Q 1216 := by
  intro H locs σ τ g mm ls hw hI hR hM hS hl
  obtain ⟨C0, hX, hbl, hK, hE, hN, hL, hlt⟩ := id hC
  obtain ⟨hx, hb, -, -, hts⟩ := id C0
  refine lv_aload_n hx hb dL_law_1216 rfl (lv_at hl 1 rfl) ?_
  refine lv_aload_n hx hb dL_law_1217 rfl (lv_at hl 3 rfl) ?_
  refine l_wcall (o := (oWrite mm)) (vx_runSW (As := [.ref (adz s.heap.size 0), .ref (s.heap.size + 144)]) (rest := []) C0 (mL_write l hlt D (adz s.heap.size) ci (AC s.heap.size) (s.heap.size + 144) AC_out g σ mm hI hR ) (vx_cwSW 2 hts gL_law_L_write rfl rfl rfl ddL_write ⟨Nat.le_of_ble_eq_true rfl, Nat.le_of_ble_eq_true rfl⟩) (l_wpre hK hE hN rfl hw hS) rfl rfl hl.1 rfl (lv_room (Nat.le_of_ble_eq_true rfl)) dL_law_1218 ⟨hcs.1, hcs.2⟩) hw hS (fun H locs σ1 g1 h1 h2 h3 hw hS => ?_)
  refine lv_istore (lv' := (5, .int (nI (oWrite mm).1)) :: Lv b s.heap.size i) hx hb dL_law_1221 hl (by decide) rfl (fun ls hl => ?_)
  refine lv_aload_n hx hb dL_law_1223 rfl (lv_at hl 3 rfl) ?_
  refine l_mcalli (fun u => u) (va_runV (As := []) (rest := []) C0 (mX6_write l D (adM s.heap.size) ci (AM s.heap.size) τ  (KM (oWrite mm)) trivial (sM_write hM  (OutM_K _))) (cwV 0 hts gL_law_X6_write rfl rfl rfl ddX6_write ⟨Nat.le_of_ble_eq_true rfl, Nat.le_of_ble_eq_true rfl⟩) (l_mpre hK hw) rfl rfl hl.1 rfl (lv_room (Nat.le_of_ble_eq_true rfl)) dL_law_1224 ⟨hcs.1, hcs.2⟩) hw hS (fun r τ1 H locs h4 hw hS => ?_)
  refine lv_istore (lv' := (6, .int r) :: (5, .int (nI (oWrite mm).1)) :: Lv b s.heap.size i) hx hb dL_law_1227 hl (by decide) rfl (fun ls hl => ?_)
  exact l_tail hC hw hS h1 h2 h3 h4 lt_write hl hcs dL_law_1229 dL_law_1230 dL_law_1233 dL_law_1235 dL_law_1240 dL_law_1242 dL_law_1245 dL_law_1246 dL_law_1247 dL_law_1248 dL_law_1250 dL_law_1251 dL_law_1252 dL_law_1257 (by decide) k
set_option maxHeartbeats 4000000 in
set_option maxRecDepth 100000 in
theorem case_read (hC : lw_C l p s m c b L xs D ci) (hi : i + 3 ≤ L) (hcs : cells + 1 ≤ 610757 ∧ slots + 6 ≤ 7263833) (k : Go p l e s m below meth c b D ci i (cells + 1) (slots + 6) Q 1375) : Go p l e s m below meth c b D ci i cells slots Q 1260 := by
  intro H locs σ τ g mm ls hw hI hR hM hS hl
  obtain ⟨C0, hX, hbl, hK, hE, hN, hL, hlt⟩ := id hC
  obtain ⟨hx, hb, -, -, hts⟩ := id C0
  refine lv_aload_n hx hb dL_law_1260 rfl (lv_at hl 1 rfl) ?_
  refine lv_aload_n hx hb dL_law_1261 rfl (lv_at hl 3 rfl) ?_
  refine l_wcall (o := (oRead mm)) (vx_runSW (As := [.ref (adz s.heap.size 0), .ref (s.heap.size + 144)]) (rest := []) C0 (mL_read l hlt D (adz s.heap.size) ci (AC s.heap.size) (s.heap.size + 144) AC_out g σ mm hI hR ) (vx_cwSW 2 hts gL_law_L_read rfl rfl rfl ddL_read ⟨Nat.le_of_ble_eq_true rfl, Nat.le_of_ble_eq_true rfl⟩) (l_wpre hK hE hN rfl hw hS) rfl rfl hl.1 rfl (lv_room (Nat.le_of_ble_eq_true rfl)) dL_law_1262 ⟨hcs.1, hcs.2⟩) hw hS (fun H locs σ1 g1 h1 h2 h3 hw hS => ?_)
  refine lv_istore (lv' := (5, .int (nI (oRead mm).1)) :: Lv b s.heap.size i) hx hb dL_law_1265 hl (by decide) rfl (fun ls hl => ?_)
  refine lv_aload_n hx hb dL_law_1267 rfl (lv_at hl 3 rfl) ?_
  refine l_mcalli (fun u => u) (va_runV (As := []) (rest := []) C0 (mX6_read l D (adM s.heap.size) ci (AM s.heap.size) τ  (KM (oRead mm)) trivial (sM_read hM  (OutM_K _))) (cwV 0 hts gL_law_X6_read rfl rfl rfl ddX6_read ⟨Nat.le_of_ble_eq_true rfl, Nat.le_of_ble_eq_true rfl⟩) (l_mpre hK hw) rfl rfl hl.1 rfl (lv_room (Nat.le_of_ble_eq_true rfl)) dL_law_1268 ⟨hcs.1, hcs.2⟩) hw hS (fun r τ1 H locs h4 hw hS => ?_)
  refine lv_istore (lv' := (6, .int r) :: (5, .int (nI (oRead mm).1)) :: Lv b s.heap.size i) hx hb dL_law_1271 hl (by decide) rfl (fun ls hl => ?_)
  exact l_tail hC hw hS h1 h2 h3 h4 lt_read hl hcs dL_law_1273 dL_law_1274 dL_law_1277 dL_law_1279 dL_law_1284 dL_law_1286 dL_law_1289 dL_law_1290 dL_law_1291 dL_law_1292 dL_law_1294 dL_law_1295 dL_law_1296 dL_law_1301 (by decide) k
set_option maxHeartbeats 4000000 in
set_option maxRecDepth 100000 in
theorem case_writeAll (hC : lw_C l p s m c b L xs D ci) (hi : i + 3 ≤ L) (hcs : cells + 1 ≤ 610757 ∧ slots + 6 ≤ 7263833) (k : Go p l e s m below meth c b D ci i (cells + 1) (slots + 6) Q 1375) : Go p l e s m below meth c b D ci i cells slots Q 1304 := by
  intro H locs σ τ g mm ls hw hI hR hM hS hl
  obtain ⟨C0, hX, hbl, hK, hE, hN, hL, hlt⟩ := id hC
  obtain ⟨hx, hb, -, -, hts⟩ := id C0
  refine lv_aload_n hx hb dL_law_1304 rfl (lv_at hl 1 rfl) ?_
  refine lv_aload_n hx hb dL_law_1305 rfl (lv_at hl 3 rfl) ?_
  refine l_wcall (o := (oWriteAll mm)) (vx_runSW (As := [.ref (adz s.heap.size 0), .ref (s.heap.size + 144)]) (rest := []) C0 (mL_writeAll l hlt D (adz s.heap.size) ci (AC s.heap.size) (s.heap.size + 144) AC_out g σ mm hI hR ) (vx_cwSW 2 hts gL_law_L_writeAll rfl rfl rfl ddL_writeAll ⟨Nat.le_of_ble_eq_true rfl, Nat.le_of_ble_eq_true rfl⟩) (l_wpre hK hE hN rfl hw hS) rfl rfl hl.1 rfl (lv_room (Nat.le_of_ble_eq_true rfl)) dL_law_1306 ⟨hcs.1, hcs.2⟩) hw hS (fun H locs σ1 g1 h1 h2 h3 hw hS => ?_)
  refine lv_istore (lv' := (5, .int (nI (oWriteAll mm).1)) :: Lv b s.heap.size i) hx hb dL_law_1309 hl (by decide) rfl (fun ls hl => ?_)
  refine lv_aload_n hx hb dL_law_1311 rfl (lv_at hl 3 rfl) ?_
  refine l_mcalli (fun u => u) (va_runV (As := []) (rest := []) C0 (mX6_writeAll l D (adM s.heap.size) ci (AM s.heap.size) τ  (KM (oWriteAll mm)) trivial (sM_writeAll hM  (OutM_K _))) (cwV 0 hts gL_law_X6_writeAll rfl rfl rfl ddX6_writeAll ⟨Nat.le_of_ble_eq_true rfl, Nat.le_of_ble_eq_true rfl⟩) (l_mpre hK hw) rfl rfl hl.1 rfl (lv_room (Nat.le_of_ble_eq_true rfl)) dL_law_1312 ⟨hcs.1, hcs.2⟩) hw hS (fun r τ1 H locs h4 hw hS => ?_)
  refine lv_istore (lv' := (6, .int r) :: (5, .int (nI (oWriteAll mm).1)) :: Lv b s.heap.size i) hx hb dL_law_1315 hl (by decide) rfl (fun ls hl => ?_)
  exact l_tail hC hw hS h1 h2 h3 h4 lt_writeAll hl hcs dL_law_1317 dL_law_1318 dL_law_1321 dL_law_1323 dL_law_1328 dL_law_1330 dL_law_1333 dL_law_1334 dL_law_1335 dL_law_1336 dL_law_1338 dL_law_1339 dL_law_1340 dL_law_1345 (by decide) k
end LAWK
