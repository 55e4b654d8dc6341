def f_X9_copies_329  : Nat → Option Nat → Int32 → Int32 → Int32 → Hp → Option (Unit × Hp)
  | 0, _, _, _, _, _ => none
  | n + 1, v0, v1, v2, v3, h => if 64 ≤ v3 then
      some ((), h)
    else
      (getR h v0 9 35).bind fun x2 =>
      (getR h v0 9 35).bind fun x3 =>
      (aldI h x3 11 ((64 * v1) + v3)).bind fun x4 =>
      (astI h x2 ((64 * v2) + v3) x4).bind fun h5 =>
      (getR h5 v0 9 36).bind fun x6 =>
      (getR h5 v0 9 36).bind fun x7 =>
      (aldD h5 x7 ((64 * v1) + v3)).bind fun x8 =>
      (astD h5 x6 ((64 * v2) + v3) x8).bind fun h9 =>
      f_X9_copies_329 n v0 v1 v2 (v3 + 1) h9
set_option maxHeartbeats 4000000 in
set_option maxRecDepth 100000 in
theorem w_X9_copies_329 {p : Program} {l : Launch} {e : Env} {s : State} {m : MethodId} {args : Array Value} {below : List Frame} {meth : Method} {c : Code} {D : va_G} {cA : Nat → ClassId} {sz : Nat}  {hh : Hp}  (X : ab_X p s m args meth c cX9_copies 4 RX9 D cA sz) (hr : meth.sig.returnType = none)  (n : Nat) : ∀ (v0 : Option Nat) (v1 : Int32) (v2 : Int32) (v3 : Int32) (h : Hp) (H : Heap) (locs : List Loc) (ls : Array Slot), ab_H D cA sz h s H locs → lv_has ls 4 [(0, va_rf v0), (1, .int v1), (2, .int v2), (3, .int v3)] → f_X9_copies_329 n v0 v1 v2 v3 h = some ((), hh) → W p l e (ab_rm 1 0 0) s m args below meth c H locs 0 0 (MQ below (ab_Q D cA sz none hh) args s 0 0 (fun q => sz ≤ q)) (F0 m 329 ls []) := by
  induction n with
  | zero => intro v0 v1 v2 v3 h H locs ls S hl hF; cases hF
  | succ n ih =>
    intro v0 v1 v2 v3 h H locs ls S hl hF
    rw [f_X9_copies_329] at hF
    refine lv_iload_n X.1 X.2.1 dX9_copies_329 rfl (lv_at hl 3 rfl) ?_
    refine lv_bipush (v := 64) X.1 X.2.1 dX9_copies_330 (by decide) ?_
    refine lv_icmp_ge (tgt := 385) X.1 X.2.1 dX9_copies_332 (by decide) (fun c1 => ?_) (fun c1 => ?_)
    · have hF := ab_pos c1 hF
      exact ab_vret X S hr hF dX9_copies_385
    · have hF := ab_neg c1 hF
      refine ab_aload_n X dX9_copies_335 rfl (lv_at hl 0 rfl) ?_
      refine ab_getR X S hF fi_9_35 lf_X9_113 dX9_copies_336 (fun x2 hF => ?_)
      refine lv_bipush (v := 64) X.1 X.2.1 dX9_copies_339 (by decide) ?_
      refine lv_iload_n X.1 X.2.1 dX9_copies_341 rfl (lv_at hl 2 rfl) ?_
      refine lv_imul X.1 X.2.1 dX9_copies_342 ?_
      refine lv_iload_n X.1 X.2.1 dX9_copies_343 rfl (lv_at hl 3 rfl) ?_
      refine lv_iadd X.1 X.2.1 dX9_copies_344 ?_
      refine ab_aload_n X dX9_copies_345 rfl (lv_at hl 0 rfl) ?_
      refine ab_getR X S hF fi_9_35 lf_X9_113 dX9_copies_346 (fun x3 hF => ?_)
      refine lv_bipush (v := 64) X.1 X.2.1 dX9_copies_349 (by decide) ?_
      refine lv_iload_n X.1 X.2.1 dX9_copies_351 rfl (lv_at hl 1 rfl) ?_
      refine lv_imul X.1 X.2.1 dX9_copies_352 ?_
      refine lv_iload_n X.1 X.2.1 dX9_copies_353 rfl (lv_at hl 3 rfl) ?_
      refine lv_iadd X.1 X.2.1 dX9_copies_354 ?_
      refine ab_aldI X S hF dX9_copies_355 (fun x4 hF => ?_)
      refine ab_astI X S hF dX9_copies_356 (fun h5 H1 locs1 hF S => ?_)
      refine ab_aload_n X dX9_copies_357 rfl (lv_at hl 0 rfl) ?_
      refine ab_getR X S hF fi_9_36 lf_X9_116 dX9_copies_358 (fun x6 hF => ?_)
      refine lv_bipush (v := 64) X.1 X.2.1 dX9_copies_361 (by decide) ?_
      refine lv_iload_n X.1 X.2.1 dX9_copies_363 rfl (lv_at hl 2 rfl) ?_
      refine lv_imul X.1 X.2.1 dX9_copies_364 ?_
      refine lv_iload_n X.1 X.2.1 dX9_copies_365 rfl (lv_at hl 3 rfl) ?_
      refine lv_iadd X.1 X.2.1 dX9_copies_366 ?_
      refine ab_aload_n X dX9_copies_367 rfl (lv_at hl 0 rfl) ?_
      refine ab_getR X S hF fi_9_36 lf_X9_116 dX9_copies_368 (fun x7 hF => ?_)
      refine lv_bipush (v := 64) X.1 X.2.1 dX9_copies_371 (by decide) ?_
      refine lv_iload_n X.1 X.2.1 dX9_copies_373 rfl (lv_at hl 1 rfl) ?_
      refine lv_imul X.1 X.2.1 dX9_copies_374 ?_
      refine lv_iload_n X.1 X.2.1 dX9_copies_375 rfl (lv_at hl 3 rfl) ?_
      refine lv_iadd X.1 X.2.1 dX9_copies_376 ?_
      refine ab_aldD X S hF dX9_copies_377 (fun x8 hF => ?_)
      refine ab_astD X S hF dX9_copies_378 (fun h9 H1 locs1 hF S => ?_)
      refine lv_iinc (v := v3 + 1) (lv' := [(3, .int (v3 + 1)), (0, va_rf v0), (1, .int v1), (2, .int v2)]) X.1 X.2.1 dX9_copies_379 hl (k := 3) rfl (by rfl) (by decide) (by simp [ab_cat, ab_cI, ab_cJ, ab_cD, ab_cF]) (fun ls hl => ?_)
      refine lv_goto (tgt := 329) X.1 X.2.1 dX9_copies_382 (by decide) ?_
      exact ih _ _ _ _ _ _ _ _ S (lv_sub hl [1, 2, 3, 0] rfl) hF
def f_X9_copies_236  : Nat → Option Nat → Int32 → Int32 → Int32 → Hp → Option (Unit × Hp)
  | 0, _, _, _, _, _ => none
  | n + 1, v0, v1, v2, v3, h => if 4 ≤ v3 then
      f_X9_copies_329 fuelN v0 v1 v2 0 h
    else
      (getR h v0 9 31).bind fun x2 =>
      (getR h v0 9 31).bind fun x3 =>
      (aldI h x3 11 ((4 * v1) + v3)).bind fun x4 =>
      (astI h x2 ((4 * v2) + v3) x4).bind fun h5 =>
      (getR h5 v0 9 32).bind fun x6 =>
      (getR h5 v0 9 32).bind fun x7 =>
      (aldI h5 x7 11 ((4 * v1) + v3)).bind fun x8 =>
      (astI h5 x6 ((4 * v2) + v3) x8).bind fun h9 =>
      (getR h9 v0 9 33).bind fun x10 =>
      (getR h9 v0 9 33).bind fun x11 =>
      (aldI h9 x11 11 ((4 * v1) + v3)).bind fun x12 =>
      (astI h9 x10 ((4 * v2) + v3) x12).bind fun h13 =>
      (getR h13 v0 9 34).bind fun x14 =>
      (getR h13 v0 9 34).bind fun x15 =>
      (aldI h13 x15 11 ((4 * v1) + v3)).bind fun x16 =>
      (astI h13 x14 ((4 * v2) + v3) x16).bind fun h17 =>
      f_X9_copies_236 n v0 v1 v2 (v3 + 1) h17
set_option maxHeartbeats 4000000 in
set_option maxRecDepth 100000 in
theorem w_X9_copies_236 {p : Program} {l : Launch} {e : Env} {s : State} {m : MethodId} {args : Array Value} {below : List Frame} {meth : Method} {c : Code} {D : va_G} {cA : Nat → ClassId} {sz : Nat}  {hh : Hp}  (X : ab_X p s m args meth c cX9_copies 4 RX9 D cA sz) (hr : meth.sig.returnType = none)  (n : Nat) : ∀ (v0 : Option Nat) (v1 : Int32) (v2 : Int32) (v3 : Int32) (h : Hp) (H : Heap) (locs : List Loc) (ls : Array Slot), ab_H D cA sz h s H locs → lv_has ls 4 [(0, va_rf v0), (1, .int v1), (2, .int v2), (3, .int v3)] → f_X9_copies_236 n v0 v1 v2 v3 h = some ((), hh) → W p l e (ab_rm 1 0 0) s m args below meth c H locs 0 0 (MQ below (ab_Q D cA sz none hh) args s 0 0 (fun q => sz ≤ q)) (F0 m 236 ls []) := by
  induction n with
  | zero => intro v0 v1 v2 v3 h H locs ls S hl hF; cases hF
  | succ n ih =>
    intro v0 v1 v2 v3 h H locs ls S hl hF
    rw [f_X9_copies_236] at hF
    refine lv_iload_n X.1 X.2.1 dX9_copies_236 rfl (lv_at hl 3 rfl) ?_
    refine lv_iconst (v := 4) X.1 X.2.1 dX9_copies_237 (by decide) ?_
    refine lv_icmp_ge (tgt := 327) X.1 X.2.1 dX9_copies_238 (by decide) (fun c1 => ?_) (fun c1 => ?_)
    · have hF := ab_pos c1 hF
      refine lv_iconst (v := 0) X.1 X.2.1 dX9_copies_327 (by decide) ?_
      refine lv_istore_n (i := 3) (lv' := [(3, .int 0), (0, va_rf v0), (1, .int v1), (2, .int v2)]) X.1 X.2.1 dX9_copies_328 rfl hl (by decide) (by simp [ab_cat, ab_cI, ab_cJ, ab_cD, ab_cF]) (fun ls hl => ?_)
      exact w_X9_copies_329 X hr  fuelN _ _ _ _ _ _ _ _ S (lv_sub hl [1, 2, 3, 0] rfl) hF
    · have hF := ab_neg c1 hF
      refine ab_aload_n X dX9_copies_241 rfl (lv_at hl 0 rfl) ?_
      refine ab_getR X S hF fi_9_31 lf_X9_101 dX9_copies_242 (fun x2 hF => ?_)
      refine lv_iconst (v := 4) X.1 X.2.1 dX9_copies_245 (by decide) ?_
      refine lv_iload_n X.1 X.2.1 dX9_copies_246 rfl (lv_at hl 2 rfl) ?_
      refine lv_imul X.1 X.2.1 dX9_copies_247 ?_
      refine lv_iload_n X.1 X.2.1 dX9_copies_248 rfl (lv_at hl 3 rfl) ?_
      refine lv_iadd X.1 X.2.1 dX9_copies_249 ?_
      refine ab_aload_n X dX9_copies_250 rfl (lv_at hl 0 rfl) ?_
      refine ab_getR X S hF fi_9_31 lf_X9_101 dX9_copies_251 (fun x3 hF => ?_)
      refine lv_iconst (v := 4) X.1 X.2.1 dX9_copies_254 (by decide) ?_
      refine lv_iload_n X.1 X.2.1 dX9_copies_255 rfl (lv_at hl 1 rfl) ?_
      refine lv_imul X.1 X.2.1 dX9_copies_256 ?_
      refine lv_iload_n X.1 X.2.1 dX9_copies_257 rfl (lv_at hl 3 rfl) ?_
      refine lv_iadd X.1 X.2.1 dX9_copies_258 ?_
      refine ab_aldI X S hF dX9_copies_259 (fun x4 hF => ?_)
      refine ab_astI X S hF dX9_copies_260 (fun h5 H1 locs1 hF S => ?_)
      refine ab_aload_n X dX9_copies_261 rfl (lv_at hl 0 rfl) ?_
      refine ab_getR X S hF fi_9_32 lf_X9_104 dX9_copies_262 (fun x6 hF => ?_)
      refine lv_iconst (v := 4) X.1 X.2.1 dX9_copies_265 (by decide) ?_
      refine lv_iload_n X.1 X.2.1 dX9_copies_266 rfl (lv_at hl 2 rfl) ?_
      refine lv_imul X.1 X.2.1 dX9_copies_267 ?_
      refine lv_iload_n X.1 X.2.1 dX9_copies_268 rfl (lv_at hl 3 rfl) ?_
      refine lv_iadd X.1 X.2.1 dX9_copies_269 ?_
      refine ab_aload_n X dX9_copies_270 rfl (lv_at hl 0 rfl) ?_
      refine ab_getR X S hF fi_9_32 lf_X9_104 dX9_copies_271 (fun x7 hF => ?_)
      refine lv_iconst (v := 4) X.1 X.2.1 dX9_copies_274 (by decide) ?_
      refine lv_iload_n X.1 X.2.1 dX9_copies_275 rfl (lv_at hl 1 rfl) ?_
      refine lv_imul X.1 X.2.1 dX9_copies_276 ?_
      refine lv_iload_n X.1 X.2.1 dX9_copies_277 rfl (lv_at hl 3 rfl) ?_
      refine lv_iadd X.1 X.2.1 dX9_copies_278 ?_
      refine ab_aldI X S hF dX9_copies_279 (fun x8 hF => ?_)
      refine ab_astI X S hF dX9_copies_280 (fun h9 H1 locs1 hF S => ?_)
      refine ab_aload_n X dX9_copies_281 rfl (lv_at hl 0 rfl) ?_
      refine ab_getR X S hF fi_9_33 lf_X9_107 dX9_copies_282 (fun x10 hF => ?_)
      refine lv_iconst (v := 4) X.1 X.2.1 dX9_copies_285 (by decide) ?_
      refine lv_iload_n X.1 X.2.1 dX9_copies_286 rfl (lv_at hl 2 rfl) ?_
      refine lv_imul X.1 X.2.1 dX9_copies_287 ?_
      refine lv_iload_n X.1 X.2.1 dX9_copies_288 rfl (lv_at hl 3 rfl) ?_
      refine lv_iadd X.1 X.2.1 dX9_copies_289 ?_
      refine ab_aload_n X dX9_copies_290 rfl (lv_at hl 0 rfl) ?_
      refine ab_getR X S hF fi_9_33 lf_X9_107 dX9_copies_291 (fun x11 hF => ?_)
      refine lv_iconst (v := 4) X.1 X.2.1 dX9_copies_294 (by decide) ?_
      refine lv_iload_n X.1 X.2.1 dX9_copies_295 rfl (lv_at hl 1 rfl) ?_
      refine lv_imul X.1 X.2.1 dX9_copies_296 ?_
      refine lv_iload_n X.1 X.2.1 dX9_copies_297 rfl (lv_at hl 3 rfl) ?_
      refine lv_iadd X.1 X.2.1 dX9_copies_298 ?_
      refine ab_aldI X S hF dX9_copies_299 (fun x12 hF => ?_)
      refine ab_astI X S hF dX9_copies_300 (fun h13 H1 locs1 hF S => ?_)
      refine ab_aload_n X dX9_copies_301 rfl (lv_at hl 0 rfl) ?_
      refine ab_getR X S hF fi_9_34 lf_X9_110 dX9_copies_302 (fun x14 hF => ?_)
      refine lv_iconst (v := 4) X.1 X.2.1 dX9_copies_305 (by decide) ?_
      refine lv_iload_n X.1 X.2.1 dX9_copies_306 rfl (lv_at hl 2 rfl) ?_
      refine lv_imul X.1 X.2.1 dX9_copies_307 ?_
      refine lv_iload_n X.1 X.2.1 dX9_copies_308 rfl (lv_at hl 3 rfl) ?_
      refine lv_iadd X.1 X.2.1 dX9_copies_309 ?_
      refine ab_aload_n X dX9_copies_310 rfl (lv_at hl 0 rfl) ?_
      refine ab_getR X S hF fi_9_34 lf_X9_110 dX9_copies_311 (fun x15 hF => ?_)
      refine lv_iconst (v := 4) X.1 X.2.1 dX9_copies_314 (by decide) ?_
      refine lv_iload_n X.1 X.2.1 dX9_copies_315 rfl (lv_at hl 1 rfl) ?_
      refine lv_imul X.1 X.2.1 dX9_copies_316 ?_
      refine lv_iload_n X.1 X.2.1 dX9_copies_317 rfl (lv_at hl 3 rfl) ?_
      refine lv_iadd X.1 X.2.1 dX9_copies_318 ?_
      refine ab_aldI X S hF dX9_copies_319 (fun x16 hF => ?_)
      refine ab_astI X S hF dX9_copies_320 (fun h17 H1 locs1 hF S => ?_)
      refine lv_iinc (v := v3 + 1) (lv' := [(3, .int (v3 + 1)), (0, va_rf v0), (1, .int v1), (2, .int v2)]) X.1 X.2.1 dX9_copies_321 hl (k := 3) rfl (by rfl) (by decide) (by simp [ab_cat, ab_cI, ab_cJ, ab_cD, ab_cF]) (fun ls hl => ?_)
      refine lv_goto (tgt := 236) X.1 X.2.1 dX9_copies_324 (by decide) ?_
      exact ih _ _ _ _ _ _ _ _ S (lv_sub hl [1, 2, 3, 0] rfl) hF
def f_X9_copies_206  : Nat → Option Nat → Int32 → Int32 → Int32 → Hp → Option (Unit × Hp)
  | 0, _, _, _, _, _ => none
  | n + 1, v0, v1, v2, v3, h => if 6 ≤ v3 then
      f_X9_copies_236 fuelN v0 v1 v2 0 h
    else
      (ab_ck h v0 (9, 0)).bind fun a5 =>
      bnd (f_X9_copiesVariable a5 ((6 * v1) + v3) ((6 * v2) + v3) h) fun _ h3 =>
      f_X9_copies_206 n v0 v1 v2 (v3 + 1) h3
set_option maxHeartbeats 4000000 in
set_option maxRecDepth 100000 in
theorem w_X9_copies_206 {p : Program} {l : Launch} {e : Env} {s : State} {m : MethodId} {args : Array Value} {below : List Frame} {meth : Method} {c : Code} {D : va_G} {cA : Nat → ClassId} {sz : Nat}  {hh : Hp}  (X : ab_X p s m args meth c cX9_copies 4 RX9 D cA sz) (hr : meth.sig.returnType = none)  (n : Nat) : ∀ (v0 : Option Nat) (v1 : Int32) (v2 : Int32) (v3 : Int32) (h : Hp) (H : Heap) (locs : List Loc) (ls : Array Slot), ab_H D cA sz h s H locs → lv_has ls 4 [(0, va_rf v0), (1, .int v1), (2, .int v2), (3, .int v3)] → f_X9_copies_206 n v0 v1 v2 v3 h = some ((), hh) → W p l e (ab_rm 1 0 0) s m args below meth c H locs 0 0 (MQ below (ab_Q D cA sz none hh) args s 0 0 (fun q => sz ≤ q)) (F0 m 206 ls []) := by
  induction n with
  | zero => intro v0 v1 v2 v3 h H locs ls S hl hF; cases hF
  | succ n ih =>
    intro v0 v1 v2 v3 h H locs ls S hl hF
    rw [f_X9_copies_206] at hF
    refine lv_iload_n X.1 X.2.1 dX9_copies_206 rfl (lv_at hl 3 rfl) ?_
    refine lv_bipush (v := 6) X.1 X.2.1 dX9_copies_207 (by decide) ?_
    refine lv_icmp_ge (tgt := 234) X.1 X.2.1 dX9_copies_209 (by decide) (fun c1 => ?_) (fun c1 => ?_)
    · have hF := ab_pos c1 hF
      refine lv_iconst (v := 0) X.1 X.2.1 dX9_copies_234 (by decide) ?_
      refine lv_istore_n (i := 3) (lv' := [(3, .int 0), (0, va_rf v0), (1, .int v1), (2, .int v2)]) X.1 X.2.1 dX9_copies_235 rfl hl (by decide) (by simp [ab_cat, ab_cI, ab_cJ, ab_cD, ab_cF]) (fun ls hl => ?_)
      exact w_X9_copies_236 X hr  fuelN _ _ _ _ _ _ _ _ S (lv_sub hl [1, 2, 3, 0] rfl) hF
    · have hF := ab_neg c1 hF
      refine ab_aload_n X dX9_copies_212 rfl (lv_at hl 0 rfl) ?_
      refine lv_bipush (v := 6) X.1 X.2.1 dX9_copies_213 (by decide) ?_
      refine lv_iload_n X.1 X.2.1 dX9_copies_215 rfl (lv_at hl 1 rfl) ?_
      refine lv_imul X.1 X.2.1 dX9_copies_216 ?_
      refine lv_iload_n X.1 X.2.1 dX9_copies_217 rfl (lv_at hl 3 rfl) ?_
      refine lv_iadd X.1 X.2.1 dX9_copies_218 ?_
      refine lv_bipush (v := 6) X.1 X.2.1 dX9_copies_219 (by decide) ?_
      refine lv_iload_n X.1 X.2.1 dX9_copies_221 rfl (lv_at hl 2 rfl) ?_
      refine lv_imul X.1 X.2.1 dX9_copies_222 ?_
      refine lv_iload_n X.1 X.2.1 dX9_copies_223 rfl (lv_at hl 3 rfl) ?_
      refine lv_iadd X.1 X.2.1 dX9_copies_224 ?_
      obtain ⟨a5, e6, hF⟩ := bind_out hF
      obtain ⟨x2, h3, e4, hF⟩ := bnd_out hF
      refine ab_callVv X S e6 (c_X9_copiesVariable l D cA sz e4) rfl (by decide) mi_X9_copiesVariable lm_X9_380 li_yX9_copiesVariable ls_yX9_copiesVariable (As := [.int ((6 * v1) + v3), .int ((6 * v2) + v3)]) (rest := []) rfl ⟨by decide, by decide⟩ ⟨(by decide), (by decide)⟩ hl.1 rfl (by simp [ab_cat, ab_cI, ab_cJ, ab_cD, ab_cF]) dX9_copies_225 (fun H1 locs1 S => ?_)
      refine lv_iinc (v := v3 + 1) (lv' := [(3, .int (v3 + 1)), (0, va_rf v0), (1, .int v1), (2, .int v2)]) X.1 X.2.1 dX9_copies_228 hl (k := 3) rfl (by rfl) (by decide) (by simp [ab_cat, ab_cI, ab_cJ, ab_cD, ab_cF]) (fun ls hl => ?_)
      refine lv_goto (tgt := 206) X.1 X.2.1 dX9_copies_231 (by decide) ?_
      exact ih _ _ _ _ _ _ _ _ S (lv_sub hl [1, 2, 3, 0] rfl) hF
def f_X9_copies (this : Nat) (p0 : Int32) (p1 : Int32) (h : Hp) : Option (Unit × Hp) :=
  (getR h (some this) 9 15).bind fun x1 =>
  (getR h (some this) 9 15).bind fun x2 =>
  (aldI h x2 11 p0).bind fun x3 =>
  (astI h x1 p1 x3).bind fun h4 =>
  (getR h4 (some this) 9 16).bind fun x5 =>
  (getR h4 (some this) 9 16).bind fun x6 =>
  (aldI h4 x6 11 p0).bind fun x7 =>
  (astI h4 x5 p1 x7).bind fun h8 =>
  (getR h8 (some this) 9 17).bind fun x9 =>
  (getR h8 (some this) 9 17).bind fun x10 =>
  (aldI h8 x10 11 p0).bind fun x11 =>
  (astI h8 x9 p1 x11).bind fun h12 =>
  (getR h12 (some this) 9 18).bind fun x13 =>
  (getR h12 (some this) 9 18).bind fun x14 =>
  (aldI h12 x14 11 p0).bind fun x15 =>
  (astI h12 x13 p1 x15).bind fun h16 =>
  (getR h16 (some this) 9 19).bind fun x17 =>
  (getR h16 (some this) 9 19).bind fun x18 =>
  (aldI h16 x18 11 p0).bind fun x19 =>
  (astI h16 x17 p1 x19).bind fun h20 =>
  (getR h20 (some this) 9 20).bind fun x21 =>
  (getR h20 (some this) 9 20).bind fun x22 =>
  (aldI h20 x22 11 p0).bind fun x23 =>
  (astI h20 x21 p1 x23).bind fun h24 =>
  (getR h24 (some this) 9 21).bind fun x25 =>
  (getR h24 (some this) 9 21).bind fun x26 =>
  (aldI h24 x26 11 p0).bind fun x27 =>
  (astI h24 x25 p1 x27).bind fun h28 =>
  (getR h28 (some this) 9 22).bind fun x29 =>
  (getR h28 (some this) 9 22).bind fun x30 =>
  (aldI h28 x30 12 p0).bind fun x31 =>
  (astZ h28 x29 p1 x31).bind fun h32 =>
  (getR h32 (some this) 9 23).bind fun x33 =>
  (getR h32 (some this) 9 23).bind fun x34 =>
  (aldI h32 x34 12 p0).bind fun x35 =>
  (astZ h32 x33 p1 x35).bind fun h36 =>
  (getR h36 (some this) 9 25).bind fun x37 =>
  (getR h36 (some this) 9 25).bind fun x38 =>
  (aldD h36 x38 p0).bind fun x39 =>
  (astD h36 x37 p1 x39).bind fun h40 =>
  (getR h40 (some this) 9 26).bind fun x41 =>
  (getR h40 (some this) 9 26).bind fun x42 =>
  (aldD h40 x42 p0).bind fun x43 =>
  (astD h40 x41 p1 x43).bind fun h44 =>
  (getR h44 (some this) 9 27).bind fun x45 =>
  (getR h44 (some this) 9 27).bind fun x46 =>
  (aldD h44 x46 p0).bind fun x47 =>
  (astD h44 x45 p1 x47).bind fun h48 =>
  (getR h48 (some this) 9 28).bind fun x49 =>
  (getR h48 (some this) 9 28).bind fun x50 =>
  (aldD h48 x50 p0).bind fun x51 =>
  (astD h48 x49 p1 x51).bind fun h52 =>
  (getR h52 (some this) 9 29).bind fun x53 =>
  (getR h52 (some this) 9 29).bind fun x54 =>
  (aldD h52 x54 p0).bind fun x55 =>
  (astD h52 x53 p1 x55).bind fun h56 =>
  (getR h56 (some this) 9 37).bind fun x57 =>
  (getR h56 (some this) 9 37).bind fun x58 =>
  (aldI h56 x58 11 p0).bind fun x59 =>
  (astI h56 x57 p1 x59).bind fun h60 =>
  (getR h60 (some this) 9 38).bind fun x61 =>
  (getR h60 (some this) 9 38).bind fun x62 =>
  (aldD h60 x62 p0).bind fun x63 =>
  (astD h60 x61 p1 x63).bind fun h64 =>
  (getR h64 (some this) 9 39).bind fun x65 =>
  (getR h64 (some this) 9 39).bind fun x66 =>
  (aldD h64 x66 p0).bind fun x67 =>
  (astD h64 x65 p1 x67).bind fun h68 =>
  f_X9_copies_206 fuelN (some this) p0 p1 0 h68
theorem mi_X9_copies : ab_MI yX9_copies cX9_copies 4 none 2 := ⟨lc_yX9_copies, lz_RX9, by decide, by decide, by decide +kernel⟩
set_option maxHeartbeats 4000000 in
set_option maxRecDepth 100000 in
theorem c_X9_copies (l : Launch) (D : va_G) (cA : Nat → ClassId) (sz : Nat) {this : Nat} {p0 : Int32} {p1 : Int32} {h hh : Hp}  (hF : f_X9_copies this p0 p1 h = some ((), hh)) : ab_C l D cA sz yX9_copies cX9_copies 4 none 1 0 0 [.ref this, .int p0, .int p1] h none hh := by
  refine Met.ofW (cc := cX9_copies) (maxL := 4) (ret := none) (by decide) rfl ?_
  intro p e s m args below meth c s₁ B hml hv
  obtain ⟨rfl, hT, hR⟩ := hv
  have X : ab_X p s m _ meth c cX9_copies 4 RX9 D cA sz := (ab_enter B hml hT hR).1
  have S := (ab_enter B hml hT hR).2
  have hr := B.returns
  obtain ⟨ls, hls, hl⟩ := ab_entry m [.ref this, .int p0, .int p1] 4 (lv := [(0, .ref this), (1, .int p0), (2, .int p1)]) (by simp [lg_sl, ab_cat, ab_cI, ab_cJ, ab_cD, ab_cF, ab_cA]) (by simp [lv_args, ab_cat, ab_cI, ab_cJ, ab_cD, ab_cF, ab_cA])
  rw [hls]
  have hl : lv_has ls 4 [(0, va_rf (some this)), (1, .int p0), (2, .int p1)] := hl
  unfold f_X9_copies at hF
  show W p l e (ab_rm 1 0 0) s m _ below meth c s.heap [] 0 0 _ _
  refine ab_aload_n X dX9_copies_0 rfl (lv_at hl 0 rfl) ?_
  refine ab_getR X S hF fi_9_15 lf_X9_52 dX9_copies_1 (fun x1 hF => ?_)
  refine lv_iload_n X.1 X.2.1 dX9_copies_4 rfl (lv_at hl 2 rfl) ?_
  refine ab_aload_n X dX9_copies_5 rfl (lv_at hl 0 rfl) ?_
  refine ab_getR X S hF fi_9_15 lf_X9_52 dX9_copies_6 (fun x2 hF => ?_)
  refine lv_iload_n X.1 X.2.1 dX9_copies_9 rfl (lv_at hl 1 rfl) ?_
  refine ab_aldI X S hF dX9_copies_10 (fun x3 hF => ?_)
  refine ab_astI X S hF dX9_copies_11 (fun h4 H1 locs1 hF S => ?_)
  refine ab_aload_n X dX9_copies_12 rfl (lv_at hl 0 rfl) ?_
  refine ab_getR X S hF fi_9_16 lf_X9_55 dX9_copies_13 (fun x5 hF => ?_)
  refine lv_iload_n X.1 X.2.1 dX9_copies_16 rfl (lv_at hl 2 rfl) ?_
  refine ab_aload_n X dX9_copies_17 rfl (lv_at hl 0 rfl) ?_
  refine ab_getR X S hF fi_9_16 lf_X9_55 dX9_copies_18 (fun x6 hF => ?_)
  refine lv_iload_n X.1 X.2.1 dX9_copies_21 rfl (lv_at hl 1 rfl) ?_
  refine ab_aldI X S hF dX9_copies_22 (fun x7 hF => ?_)
  refine ab_astI X S hF dX9_copies_23 (fun h8 H1 locs1 hF S => ?_)
  refine ab_aload_n X dX9_copies_24 rfl (lv_at hl 0 rfl) ?_
  refine ab_getR X S hF fi_9_17 lf_X9_58 dX9_copies_25 (fun x9 hF => ?_)
  refine lv_iload_n X.1 X.2.1 dX9_copies_28 rfl (lv_at hl 2 rfl) ?_
  refine ab_aload_n X dX9_copies_29 rfl (lv_at hl 0 rfl) ?_
  refine ab_getR X S hF fi_9_17 lf_X9_58 dX9_copies_30 (fun x10 hF => ?_)
  refine lv_iload_n X.1 X.2.1 dX9_copies_33 rfl (lv_at hl 1 rfl) ?_
  refine ab_aldI X S hF dX9_copies_34 (fun x11 hF => ?_)
  refine ab_astI X S hF dX9_copies_35 (fun h12 H1 locs1 hF S => ?_)
  refine ab_aload_n X dX9_copies_36 rfl (lv_at hl 0 rfl) ?_
  refine ab_getR X S hF fi_9_18 lf_X9_61 dX9_copies_37 (fun x13 hF => ?_)
  refine lv_iload_n X.1 X.2.1 dX9_copies_40 rfl (lv_at hl 2 rfl) ?_
  refine ab_aload_n X dX9_copies_41 rfl (lv_at hl 0 rfl) ?_
  refine ab_getR X S hF fi_9_18 lf_X9_61 dX9_copies_42 (fun x14 hF => ?_)
  refine lv_iload_n X.1 X.2.1 dX9_copies_45 rfl (lv_at hl 1 rfl) ?_
  refine ab_aldI X S hF dX9_copies_46 (fun x15 hF => ?_)
  refine ab_astI X S hF dX9_copies_47 (fun h16 H1 locs1 hF S => ?_)
  refine ab_aload_n X dX9_copies_48 rfl (lv_at hl 0 rfl) ?_
  refine ab_getR X S hF fi_9_19 lf_X9_64 dX9_copies_49 (fun x17 hF => ?_)
  refine lv_iload_n X.1 X.2.1 dX9_copies_52 rfl (lv_at hl 2 rfl) ?_
  refine ab_aload_n X dX9_copies_53 rfl (lv_at hl 0 rfl) ?_
  refine ab_getR X S hF fi_9_19 lf_X9_64 dX9_copies_54 (fun x18 hF => ?_)
  refine lv_iload_n X.1 X.2.1 dX9_copies_57 rfl (lv_at hl 1 rfl) ?_
  refine ab_aldI X S hF dX9_copies_58 (fun x19 hF => ?_)
  refine ab_astI X S hF dX9_copies_59 (fun h20 H1 locs1 hF S => ?_)
  refine ab_aload_n X dX9_copies_60 rfl (lv_at hl 0 rfl) ?_
  refine ab_getR X S hF fi_9_20 lf_X9_67 dX9_copies_61 (fun x21 hF => ?_)
  refine lv_iload_n X.1 X.2.1 dX9_copies_64 rfl (lv_at hl 2 rfl) ?_
  refine ab_aload_n X dX9_copies_65 rfl (lv_at hl 0 rfl) ?_
  refine ab_getR X S hF fi_9_20 lf_X9_67 dX9_copies_66 (fun x22 hF => ?_)
  refine lv_iload_n X.1 X.2.1 dX9_copies_69 rfl (lv_at hl 1 rfl) ?_
  refine ab_aldI X S hF dX9_copies_70 (fun x23 hF => ?_)
  refine ab_astI X S hF dX9_copies_71 (fun h24 H1 locs1 hF S => ?_)
  refine ab_aload_n X dX9_copies_72 rfl (lv_at hl 0 rfl) ?_
  refine ab_getR X S hF fi_9_21 lf_X9_70 dX9_copies_73 (fun x25 hF => ?_)
  refine lv_iload_n X.1 X.2.1 dX9_copies_76 rfl (lv_at hl 2 rfl) ?_
  refine ab_aload_n X dX9_copies_77 rfl (lv_at hl 0 rfl) ?_
  refine ab_getR X S hF fi_9_21 lf_X9_70 dX9_copies_78 (fun x26 hF => ?_)
  refine lv_iload_n X.1 X.2.1 dX9_copies_81 rfl (lv_at hl 1 rfl) ?_
  refine ab_aldI X S hF dX9_copies_82 (fun x27 hF => ?_)
  refine ab_astI X S hF dX9_copies_83 (fun h28 H1 locs1 hF S => ?_)
  refine ab_aload_n X dX9_copies_84 rfl (lv_at hl 0 rfl) ?_
  refine ab_getR X S hF fi_9_22 lf_X9_73 dX9_copies_85 (fun x29 hF => ?_)
  refine lv_iload_n X.1 X.2.1 dX9_copies_88 rfl (lv_at hl 2 rfl) ?_
  refine ab_aload_n X dX9_copies_89 rfl (lv_at hl 0 rfl) ?_
  refine ab_getR X S hF fi_9_22 lf_X9_73 dX9_copies_90 (fun x30 hF => ?_)
  refine lv_iload_n X.1 X.2.1 dX9_copies_93 rfl (lv_at hl 1 rfl) ?_
  refine ab_aldZ X S hF dX9_copies_94 (fun x31 hF => ?_)
  refine ab_astZ X S hF dX9_copies_95 (fun h32 H1 locs1 hF S => ?_)
  refine ab_aload_n X dX9_copies_96 rfl (lv_at hl 0 rfl) ?_
  refine ab_getR X S hF fi_9_23 lf_X9_77 dX9_copies_97 (fun x33 hF => ?_)
  refine lv_iload_n X.1 X.2.1 dX9_copies_100 rfl (lv_at hl 2 rfl) ?_
  refine ab_aload_n X dX9_copies_101 rfl (lv_at hl 0 rfl) ?_
  refine ab_getR X S hF fi_9_23 lf_X9_77 dX9_copies_102 (fun x34 hF => ?_)
  refine lv_iload_n X.1 X.2.1 dX9_copies_105 rfl (lv_at hl 1 rfl) ?_
  refine ab_aldZ X S hF dX9_copies_106 (fun x35 hF => ?_)
  refine ab_astZ X S hF dX9_copies_107 (fun h36 H1 locs1 hF S => ?_)
  refine ab_aload_n X dX9_copies_108 rfl (lv_at hl 0 rfl) ?_
  refine ab_getR X S hF fi_9_25 lf_X9_83 dX9_copies_109 (fun x37 hF => ?_)
  refine lv_iload_n X.1 X.2.1 dX9_copies_112 rfl (lv_at hl 2 rfl) ?_
  refine ab_aload_n X dX9_copies_113 rfl (lv_at hl 0 rfl) ?_
  refine ab_getR X S hF fi_9_25 lf_X9_83 dX9_copies_114 (fun x38 hF => ?_)
  refine lv_iload_n X.1 X.2.1 dX9_copies_117 rfl (lv_at hl 1 rfl) ?_
  refine ab_aldD X S hF dX9_copies_118 (fun x39 hF => ?_)
  refine ab_astD X S hF dX9_copies_119 (fun h40 H1 locs1 hF S => ?_)
  refine ab_aload_n X dX9_copies_120 rfl (lv_at hl 0 rfl) ?_
  refine ab_getR X S hF fi_9_26 lf_X9_86 dX9_copies_121 (fun x41 hF => ?_)
  refine lv_iload_n X.1 X.2.1 dX9_copies_124 rfl (lv_at hl 2 rfl) ?_
  refine ab_aload_n X dX9_copies_125 rfl (lv_at hl 0 rfl) ?_
  refine ab_getR X S hF fi_9_26 lf_X9_86 dX9_copies_126 (fun x42 hF => ?_)
  refine lv_iload_n X.1 X.2.1 dX9_copies_129 rfl (lv_at hl 1 rfl) ?_
  refine ab_aldD X S hF dX9_copies_130 (fun x43 hF => ?_)
  refine ab_astD X S hF dX9_copies_131 (fun h44 H1 locs1 hF S => ?_)
  refine ab_aload_n X dX9_copies_132 rfl (lv_at hl 0 rfl) ?_
  refine ab_getR X S hF fi_9_27 lf_X9_89 dX9_copies_133 (fun x45 hF => ?_)
  refine lv_iload_n X.1 X.2.1 dX9_copies_136 rfl (lv_at hl 2 rfl) ?_
  refine ab_aload_n X dX9_copies_137 rfl (lv_at hl 0 rfl) ?_
  refine ab_getR X S hF fi_9_27 lf_X9_89 dX9_copies_138 (fun x46 hF => ?_)
  refine lv_iload_n X.1 X.2.1 dX9_copies_141 rfl (lv_at hl 1 rfl) ?_
  refine ab_aldD X S hF dX9_copies_142 (fun x47 hF => ?_)
  refine ab_astD X S hF dX9_copies_143 (fun h48 H1 locs1 hF S => ?_)
  refine ab_aload_n X dX9_copies_144 rfl (lv_at hl 0 rfl) ?_
  refine ab_getR X S hF fi_9_28 lf_X9_92 dX9_copies_145 (fun x49 hF => ?_)
  refine lv_iload_n X.1 X.2.1 dX9_copies_148 rfl (lv_at hl 2 rfl) ?_
  refine ab_aload_n X dX9_copies_149 rfl (lv_at hl 0 rfl) ?_
  refine ab_getR X S hF fi_9_28 lf_X9_92 dX9_copies_150 (fun x50 hF => ?_)
  refine lv_iload_n X.1 X.2.1 dX9_copies_153 rfl (lv_at hl 1 rfl) ?_
  refine ab_aldD X S hF dX9_copies_154 (fun x51 hF => ?_)
  refine ab_astD X S hF dX9_copies_155 (fun h52 H1 locs1 hF S => ?_)
  refine ab_aload_n X dX9_copies_156 rfl (lv_at hl 0 rfl) ?_
  refine ab_getR X S hF fi_9_29 lf_X9_95 dX9_copies_157 (fun x53 hF => ?_)
  refine lv_iload_n X.1 X.2.1 dX9_copies_160 rfl (lv_at hl 2 rfl) ?_
  refine ab_aload_n X dX9_copies_161 rfl (lv_at hl 0 rfl) ?_
  refine ab_getR X S hF fi_9_29 lf_X9_95 dX9_copies_162 (fun x54 hF => ?_)
  refine lv_iload_n X.1 X.2.1 dX9_copies_165 rfl (lv_at hl 1 rfl) ?_
  refine ab_aldD X S hF dX9_copies_166 (fun x55 hF => ?_)
  refine ab_astD X S hF dX9_copies_167 (fun h56 H1 locs1 hF S => ?_)
  refine ab_aload_n X dX9_copies_168 rfl (lv_at hl 0 rfl) ?_
  refine ab_getR X S hF fi_9_37 lf_X9_119 dX9_copies_169 (fun x57 hF => ?_)
  refine lv_iload_n X.1 X.2.1 dX9_copies_172 rfl (lv_at hl 2 rfl) ?_
  refine ab_aload_n X dX9_copies_173 rfl (lv_at hl 0 rfl) ?_
  refine ab_getR X S hF fi_9_37 lf_X9_119 dX9_copies_174 (fun x58 hF => ?_)
  refine lv_iload_n X.1 X.2.1 dX9_copies_177 rfl (lv_at hl 1 rfl) ?_
  refine ab_aldI X S hF dX9_copies_178 (fun x59 hF => ?_)
  refine ab_astI X S hF dX9_copies_179 (fun h60 H1 locs1 hF S => ?_)
  refine ab_aload_n X dX9_copies_180 rfl (lv_at hl 0 rfl) ?_
  refine ab_getR X S hF fi_9_38 lf_X9_122 dX9_copies_181 (fun x61 hF => ?_)
  refine lv_iload_n X.1 X.2.1 dX9_copies_184 rfl (lv_at hl 2 rfl) ?_
  refine ab_aload_n X dX9_copies_185 rfl (lv_at hl 0 rfl) ?_
  refine ab_getR X S hF fi_9_38 lf_X9_122 dX9_copies_186 (fun x62 hF => ?_)
  refine lv_iload_n X.1 X.2.1 dX9_copies_189 rfl (lv_at hl 1 rfl) ?_
  refine ab_aldD X S hF dX9_copies_190 (fun x63 hF => ?_)
  refine ab_astD X S hF dX9_copies_191 (fun h64 H1 locs1 hF S => ?_)
  refine ab_aload_n X dX9_copies_192 rfl (lv_at hl 0 rfl) ?_
  refine ab_getR X S hF fi_9_39 lf_X9_125 dX9_copies_193 (fun x65 hF => ?_)
  refine lv_iload_n X.1 X.2.1 dX9_copies_196 rfl (lv_at hl 2 rfl) ?_
  refine ab_aload_n X dX9_copies_197 rfl (lv_at hl 0 rfl) ?_
  refine ab_getR X S hF fi_9_39 lf_X9_125 dX9_copies_198 (fun x66 hF => ?_)
  refine lv_iload_n X.1 X.2.1 dX9_copies_201 rfl (lv_at hl 1 rfl) ?_
  refine ab_aldD X S hF dX9_copies_202 (fun x67 hF => ?_)
  refine ab_astD X S hF dX9_copies_203 (fun h68 H1 locs1 hF S => ?_)
  refine lv_iconst (v := 0) X.1 X.2.1 dX9_copies_204 (by decide) ?_
  refine lv_istore_n (i := 3) (lv' := [(3, .int 0), (0, va_rf (some this)), (1, .int p0), (2, .int p1)]) X.1 X.2.1 dX9_copies_205 rfl hl (by decide) (by simp [ab_cat, ab_cI, ab_cJ, ab_cD, ab_cF]) (fun ls hl => ?_)
  exact w_X9_copies_206 X hr  fuelN _ _ _ _ _ _ _ _ S (lv_sub hl [1, 2, 3, 0] rfl) hF
def f_X9_keep_17   (h : Hp) : Option (Int32 × Hp) :=
  some ((-1), h)
set_option maxHeartbeats 4000000 in
set_option maxRecDepth 100000 in
theorem w_X9_keep_17 {p : Program} {l : Launch} {e : Env} {s : State} {m : MethodId} {args : Array Value} {below : List Frame} {meth : Method} {c : Code} {D : va_G} {cA : Nat → ClassId} {sz : Nat} {rr : Int32} {hh : Hp}  (X : ab_X p s m args meth c cX9_keep 3 RX9 D cA sz) (hr : meth.sig.returnType = (some .int))  {H : Heap} {locs : List Loc} {ls : Array Slot}  {h : Hp} (S : ab_H D cA sz h s H locs) (hl : lv_has ls 3 []) (hF : f_X9_keep_17  h = some (rr, hh)) : W p l e (ab_rm 2 0 0) s m args below meth c H locs 0 0 (MQ below (ab_Q D cA sz (some (.int rr)) hh) args s 0 0 (fun q => sz ≤ q)) (F0 m 17 ls []) := by
  unfold f_X9_keep_17 at hF
  refine lv_iconst (v := (-1)) X.1 X.2.1 dX9_keep_17 (by decide) ?_
  exact ab_iret X S hr hF dX9_keep_18
def f_X9_keep (this : Nat) (p0 : Int32) (p1 : Int32) (h : Hp) : Option (Int32 × Hp) :=
  (ab_ck h (some this) (9, 0)).bind fun a4 =>
  bnd (f_X9_isRun a4 p0 h) fun x1 h2 =>
  if x1 = 0 then
    f_X9_keep_17 h2
  else
    bnd (f_X9_in p1 0 3 h2) fun x7 h8 =>
    if ¬ x7 = 0 then
      (ab_ck h8 (some this) (9, 0)).bind fun a14 =>
      bnd (f_X9_copies a14 p0 (4 + p1) h8) fun _ h12 =>
      (getR h12 (some this) 9 24).bind fun x16 =>
      (astZ h12 x16 p1 1).bind fun h17 =>
      some (1, h17)
    else
      f_X9_keep_17 h8
theorem mi_X9_keep : ab_MI yX9_keep cX9_keep 3 (some .int) 2 := ⟨lc_yX9_keep, lz_RX9, by decide, by decide, by decide +kernel⟩
set_option maxHeartbeats 4000000 in
set_option maxRecDepth 100000 in
theorem c_X9_keep (l : Launch) (D : va_G) (cA : Nat → ClassId) (sz : Nat) {this : Nat} {p0 : Int32} {p1 : Int32} {h hh : Hp} {rr : Int32} (hF : f_X9_keep this p0 p1 h = some (rr, hh)) : ab_C l D cA sz yX9_keep cX9_keep 3 (some .int) 2 0 0 [.ref this, .int p0, .int p1] h (some (.int rr)) hh := by
  refine Met.ofW (cc := cX9_keep) (maxL := 3) (ret := (some .int)) (by decide) rfl ?_
  intro p e s m args below meth c s₁ B hml hv
  obtain ⟨rfl, hT, hR⟩ := hv
  have X : ab_X p s m _ meth c cX9_keep 3 RX9 D cA sz := (ab_enter B hml hT hR).1
  have S := (ab_enter B hml hT hR).2
  have hr := B.returns
  obtain ⟨ls, hls, hl⟩ := ab_entry m [.ref this, .int p0, .int p1] 3 (lv := [(0, .ref this), (1, .int p0), (2, .int p1)]) (by simp [lg_sl, ab_cat, ab_cI, ab_cJ, ab_cD, ab_cF, ab_cA]) (by simp [lv_args, ab_cat, ab_cI, ab_cJ, ab_cD, ab_cF, ab_cA])
  rw [hls]
  have hl : lv_has ls 3 [(0, va_rf (some this)), (1, .int p0), (2, .int p1)] := hl
  unfold f_X9_keep at hF
  show W p l e (ab_rm 2 0 0) s m _ below meth c s.heap [] 0 0 _ _
  refine ab_aload_n X dX9_keep_0 rfl (lv_at hl 0 rfl) ?_
  refine lv_iload_n X.1 X.2.1 dX9_keep_1 rfl (lv_at hl 1 rfl) ?_
  obtain ⟨a4, e5, hF⟩ := bind_out hF
  obtain ⟨x1, h2, e3, hF⟩ := bnd_out hF
  refine ab_callVi X S e5 (c_X9_isRun l D cA sz e3) rfl (by decide) mi_X9_isRun lm_X9_366 li_yX9_isRun ls_yX9_isRun (As := [.int p0]) (rest := []) rfl ⟨by decide, by decide⟩ ⟨(by decide), (by decide)⟩ hl.1 rfl (by simp [ab_cat, ab_cI, ab_cJ, ab_cD, ab_cF]) dX9_keep_2 (fun H1 locs1 S => ?_)
  refine lv_if_eq (tgt := 17) X.1 X.2.1 dX9_keep_5 (by decide) (fun c6 => ?_) (fun c6 => ?_)
  · have hF := ab_pos c6 hF
    exact w_X9_keep_17 X hr  S (lv_sub hl [] rfl) hF
  · have hF := ab_neg c6 hF
    refine lv_iload_n X.1 X.2.1 dX9_keep_8 rfl (lv_at hl 2 rfl) ?_
    refine lv_iconst (v := 0) X.1 X.2.1 dX9_keep_9 (by decide) ?_
    refine lv_iconst (v := 3) X.1 X.2.1 dX9_keep_10 (by decide) ?_
    obtain ⟨x7, h8, e9, hF⟩ := bnd_out hF
    refine ab_callSi X S (c_X9_in l D cA sz e9) mi_X9_in lm_X9_343 lt_yX9_in (As := [.int p1, .int 0, .int 3]) (rest := []) rfl ⟨by decide, by decide⟩ ⟨(by decide), (by decide)⟩ hl.1 rfl (by simp [ab_cat, ab_cI, ab_cJ, ab_cD, ab_cF]) dX9_keep_11 (fun H1 locs1 S => ?_)
    refine lv_if_ne (tgt := 19) X.1 X.2.1 dX9_keep_14 (by decide) (fun c10 => ?_) (fun c10 => ?_)
    · have hF := ab_pos c10 hF
      refine ab_aload_n X dX9_keep_19 rfl (lv_at hl 0 rfl) ?_
      refine lv_iload_n X.1 X.2.1 dX9_keep_20 rfl (lv_at hl 1 rfl) ?_
      refine lv_iconst (v := 4) X.1 X.2.1 dX9_keep_21 (by decide) ?_
      refine lv_iload_n X.1 X.2.1 dX9_keep_22 rfl (lv_at hl 2 rfl) ?_
      refine lv_iadd X.1 X.2.1 dX9_keep_23 ?_
      obtain ⟨a14, e15, hF⟩ := bind_out hF
      obtain ⟨x11, h12, e13, hF⟩ := bnd_out hF
      refine ab_callVv X S e15 (c_X9_copies l D cA sz e13) rfl (by decide) mi_X9_copies lm_X9_374 li_yX9_copies ls_yX9_copies (As := [.int p0, .int (4 + p1)]) (rest := []) rfl ⟨by decide, by decide⟩ ⟨(by decide), (by decide)⟩ hl.1 rfl (by simp [ab_cat, ab_cI, ab_cJ, ab_cD, ab_cF]) dX9_keep_24 (fun H1 locs1 S => ?_)
      refine ab_aload_n X dX9_keep_27 rfl (lv_at hl 0 rfl) ?_
      refine ab_getR X S hF fi_9_24 lf_X9_80 dX9_keep_28 (fun x16 hF => ?_)
      refine lv_iload_n X.1 X.2.1 dX9_keep_31 rfl (lv_at hl 2 rfl) ?_
      refine lv_iconst (v := 1) X.1 X.2.1 dX9_keep_32 (by decide) ?_
      refine ab_astZ X S hF dX9_keep_33 (fun h17 H1 locs1 hF S => ?_)
      refine lv_iconst (v := 1) X.1 X.2.1 dX9_keep_34 (by decide) ?_
      exact ab_iret X S hr hF dX9_keep_35
    · have hF := ab_neg (fun q => q c10) hF
      exact w_X9_keep_17 X hr  S (lv_sub hl [] rfl) hF
def f_X9_back_17   (h : Hp) : Option (Int32 × Hp) :=
  some ((-1), h)
set_option maxHeartbeats 4000000 in
set_option maxRecDepth 100000 in
theorem w_X9_back_17 {p : Program} {l : Launch} {e : Env} {s : State} {m : MethodId} {args : Array Value} {below : List Frame} {meth : Method} {c : Code} {D : va_G} {cA : Nat → ClassId} {sz : Nat} {rr : Int32} {hh : Hp}  (X : ab_X p s m args meth c cX9_back 3 RX9 D cA sz) (hr : meth.sig.returnType = (some .int))  {H : Heap} {locs : List Loc} {ls : Array Slot}  {h : Hp} (S : ab_H D cA sz h s H locs) (hl : lv_has ls 3 []) (hF : f_X9_back_17  h = some (rr, hh)) : W p l e (ab_rm 2 0 0) s m args below meth c H locs 0 0 (MQ below (ab_Q D cA sz (some (.int rr)) hh) args s 0 0 (fun q => sz ≤ q)) (F0 m 17 ls []) := by
  unfold f_X9_back_17 at hF
  refine lv_iconst (v := (-1)) X.1 X.2.1 dX9_back_17 (by decide) ?_
  exact ab_iret X S hr hF dX9_back_18
def f_X9_back (this : Nat) (p0 : Int32) (p1 : Int32) (h : Hp) : Option (Int32 × Hp) :=
  (ab_ck h (some this) (9, 0)).bind fun a4 =>
  bnd (f_X9_isRun a4 p0 h) fun x1 h2 =>
  if x1 = 0 then
    f_X9_back_17 h2
  else
    bnd (f_X9_in p1 0 3 h2) fun x7 h8 =>
    if ¬ x7 = 0 then
      (getR h8 (some this) 9 24).bind fun x11 =>
      (aldI h8 x11 12 p1).bind fun x12 =>
      if ¬ x12 = 0 then
        (ab_ck h8 (some this) (9, 0)).bind fun a17 =>
        bnd (f_X9_copies a17 (4 + p1) p0 h8) fun _ h15 =>
        some (1, h15)
      else
        some ((-2), h8)
    else
      f_X9_back_17 h8
theorem mi_X9_back : ab_MI yX9_back cX9_back 3 (some .int) 2 := ⟨lc_yX9_back, lz_RX9, by decide, by decide, by decide +kernel⟩
set_option maxHeartbeats 4000000 in
set_option maxRecDepth 100000 in
theorem c_X9_back (l : Launch) (D : va_G) (cA : Nat → ClassId) (sz : Nat) {this : Nat} {p0 : Int32} {p1 : Int32} {h hh : Hp} {rr : Int32} (hF : f_X9_back this p0 p1 h = some (rr, hh)) : ab_C l D cA sz yX9_back cX9_back 3 (some .int) 2 0 0 [.ref this, .int p0, .int p1] h (some (.int rr)) hh := by
  refine Met.ofW (cc := cX9_back) (maxL := 3) (ret := (some .int)) (by decide) rfl ?_
  intro p e s m args below meth c s₁ B hml hv
  obtain ⟨rfl, hT, hR⟩ := hv
  have X : ab_X p s m _ meth c cX9_back 3 RX9 D cA sz := (ab_enter B hml hT hR).1
  have S := (ab_enter B hml hT hR).2
  have hr := B.returns
  obtain ⟨ls, hls, hl⟩ := ab_entry m [.ref this, .int p0, .int p1] 3 (lv := [(0, .ref this), (1, .int p0), (2, .int p1)]) (by simp [lg_sl, ab_cat, ab_cI, ab_cJ, ab_cD, ab_cF, ab_cA]) (by simp [lv_args, ab_cat, ab_cI, ab_cJ, ab_cD, ab_cF, ab_cA])
  rw [hls]
  have hl : lv_has ls 3 [(0, va_rf (some this)), (1, .int p0), (2, .int p1)] := hl
  unfold f_X9_back at hF
  show W p l e (ab_rm 2 0 0) s m _ below meth c s.heap [] 0 0 _ _
  refine ab_aload_n X dX9_back_0 rfl (lv_at hl 0 rfl) ?_
  refine lv_iload_n X.1 X.2.1 dX9_back_1 rfl (lv_at hl 1 rfl) ?_
  obtain ⟨a4, e5, hF⟩ := bind_out hF
  obtain ⟨x1, h2, e3, hF⟩ := bnd_out hF
  refine ab_callVi X S e5 (c_X9_isRun l D cA sz e3) rfl (by decide) mi_X9_isRun lm_X9_366 li_yX9_isRun ls_yX9_isRun (As := [.int p0]) (rest := []) rfl ⟨by decide, by decide⟩ ⟨(by decide), (by decide)⟩ hl.1 rfl (by simp [ab_cat, ab_cI, ab_cJ, ab_cD, ab_cF]) dX9_back_2 (fun H1 locs1 S => ?_)
  refine lv_if_eq (tgt := 17) X.1 X.2.1 dX9_back_5 (by decide) (fun c6 => ?_) (fun c6 => ?_)
  · have hF := ab_pos c6 hF
    exact w_X9_back_17 X hr  S (lv_sub hl [] rfl) hF
  · have hF := ab_neg c6 hF
    refine lv_iload_n X.1 X.2.1 dX9_back_8 rfl (lv_at hl 2 rfl) ?_
    refine lv_iconst (v := 0) X.1 X.2.1 dX9_back_9 (by decide) ?_
    refine lv_iconst (v := 3) X.1 X.2.1 dX9_back_10 (by decide) ?_
    obtain ⟨x7, h8, e9, hF⟩ := bnd_out hF
    refine ab_callSi X S (c_X9_in l D cA sz e9) mi_X9_in lm_X9_343 lt_yX9_in (As := [.int p1, .int 0, .int 3]) (rest := []) rfl ⟨by decide, by decide⟩ ⟨(by decide), (by decide)⟩ hl.1 rfl (by simp [ab_cat, ab_cI, ab_cJ, ab_cD, ab_cF]) dX9_back_11 (fun H1 locs1 S => ?_)
    refine lv_if_ne (tgt := 19) X.1 X.2.1 dX9_back_14 (by decide) (fun c10 => ?_) (fun c10 => ?_)
    · have hF := ab_pos c10 hF
      refine ab_aload_n X dX9_back_19 rfl (lv_at hl 0 rfl) ?_
      refine ab_getR X S hF fi_9_24 lf_X9_80 dX9_back_20 (fun x11 hF => ?_)
      refine lv_iload_n X.1 X.2.1 dX9_back_23 rfl (lv_at hl 2 rfl) ?_
      refine ab_aldZ X S hF dX9_back_24 (fun x12 hF => ?_)
      refine lv_if_ne (tgt := 31) X.1 X.2.1 dX9_back_25 (by decide) (fun c13 => ?_) (fun c13 => ?_)
      · have hF := ab_pos c13 hF
        refine ab_aload_n X dX9_back_31 rfl (lv_at hl 0 rfl) ?_
        refine lv_iconst (v := 4) X.1 X.2.1 dX9_back_32 (by decide) ?_
        refine lv_iload_n X.1 X.2.1 dX9_back_33 rfl (lv_at hl 2 rfl) ?_
        refine lv_iadd X.1 X.2.1 dX9_back_34 ?_
        refine lv_iload_n X.1 X.2.1 dX9_back_35 rfl (lv_at hl 1 rfl) ?_
        obtain ⟨a17, e18, hF⟩ := bind_out hF
        obtain ⟨x14, h15, e16, hF⟩ := bnd_out hF
        refine ab_callVv X S e18 (c_X9_copies l D cA sz e16) rfl (by decide) mi_X9_copies lm_X9_374 li_yX9_copies ls_yX9_copies (As := [.int (4 + p1), .int p0]) (rest := []) rfl ⟨by decide, by decide⟩ ⟨(by decide), (by decide)⟩ hl.1 rfl (by simp [ab_cat, ab_cI, ab_cJ, ab_cD, ab_cF]) dX9_back_36 (fun H1 locs1 S => ?_)
        refine lv_iconst (v := 1) X.1 X.2.1 dX9_back_39 (by decide) ?_
        exact ab_iret X S hr hF dX9_back_40
      · have hF := ab_neg (fun q => q c13) hF
        refine lv_bipush (v := (-2)) X.1 X.2.1 dX9_back_28 (by decide) ?_
        exact ab_iret X S hr hF dX9_back_30
    · have hF := ab_neg (fun q => q c10) hF
      exact w_X9_back_17 X hr  S (lv_sub hl [] rfl) hF
def f_X9_unlike_17   (h : Hp) : Option (Int32 × Hp) :=
  some ((-1), h)
set_option maxHeartbeats 4000000 in
set_option maxRecDepth 100000 in
theorem w_X9_unlike_17 {p : Program} {l : Launch} {e : Env} {s : State} {m : MethodId} {args : Array Value} {below : List Frame} {meth : Method} {c : Code} {D : va_G} {cA : Nat → ClassId} {sz : Nat} {rr : Int32} {hh : Hp}  (X : ab_X p s m args meth c cX9_unlike 8 RX9 D cA sz) (hr : meth.sig.returnType = (some .int))  {H : Heap} {locs : List Loc} {ls : Array Slot}  {h : Hp} (S : ab_H D cA sz h s H locs) (hl : lv_has ls 8 []) (hF : f_X9_unlike_17  h = some (rr, hh)) : W p l e (ab_rm 3 0 0) s m args below meth c H locs 0 0 (MQ below (ab_Q D cA sz (some (.int rr)) hh) args s 0 0 (fun q => sz ≤ q)) (F0 m 17 ls []) := by
  unfold f_X9_unlike_17 at hF
  refine lv_iconst (v := (-1)) X.1 X.2.1 dX9_unlike_17 (by decide) ?_
  exact ab_iret X S hr hF dX9_unlike_18
def f_X9_unlike_199  (v6 : Int32) (h : Hp) : Option (Int32 × Hp) :=
  some (v6, h)
set_option maxHeartbeats 4000000 in
set_option maxRecDepth 100000 in
theorem w_X9_unlike_199 {p : Program} {l : Launch} {e : Env} {s : State} {m : MethodId} {args : Array Value} {below : List Frame} {meth : Method} {c : Code} {D : va_G} {cA : Nat → ClassId} {sz : Nat} {rr : Int32} {hh : Hp}  (X : ab_X p s m args meth c cX9_unlike 8 RX9 D cA sz) (hr : meth.sig.returnType = (some .int))  {H : Heap} {locs : List Loc} {ls : Array Slot} {v6 : Int32} {h : Hp} (S : ab_H D cA sz h s H locs) (hl : lv_has ls 8 [(6, .int v6)]) (hF : f_X9_unlike_199 v6 h = some (rr, hh)) : W p l e (ab_rm 3 0 0) s m args below meth c H locs 0 0 (MQ below (ab_Q D cA sz (some (.int rr)) hh) args s 0 0 (fun q => sz ≤ q)) (F0 m 199 ls []) := by
  unfold f_X9_unlike_199 at hF
  refine lv_iload X.1 X.2.1 dX9_unlike_199 (lv_at hl 0 rfl) ?_
  exact ab_iret X S hr hF dX9_unlike_201
def f_X9_unlike_193 (k_142 : Option Nat → Int32 → Int32 → Int32 → Int32 → Int32 → Int32 → Hp → Option (Int32 × Hp)) (v0 : Option Nat) (v1 : Int32) (v3 : Int32) (v4 : Int32) (v5 : Int32) (v6 : Int32) (v7 : Int32) (h : Hp) : Option (Int32 × Hp) :=
  k_142 v0 v1 v3 v4 v5 v6 (v7 + 1) h
set_option maxHeartbeats 4000000 in
set_option maxRecDepth 100000 in
theorem w_X9_unlike_193 {p : Program} {l : Launch} {e : Env} {s : State} {m : MethodId} {args : Array Value} {below : List Frame} {meth : Method} {c : Code} {D : va_G} {cA : Nat → ClassId} {sz : Nat} {rr : Int32} {hh : Hp} {k_142 : Option Nat → Int32 → Int32 → Int32 → Int32 → Int32 → Int32 → Hp → Option (Int32 × Hp)} (X : ab_X p s m args meth c cX9_unlike 8 RX9 D cA sz) (hr : meth.sig.returnType = (some .int)) (hk_142 : ∀ (v0 : Option Nat) (v1 : Int32) (v3 : Int32) (v4 : Int32) (v5 : Int32) (v6 : Int32) (v7 : Int32) (h : Hp) (H : Heap) (locs : List Loc) (ls : Array Slot), ab_H D cA sz h s H locs → lv_has ls 8 [(0, va_rf v0), (1, .int v1), (3, .int v3), (4, .int v4), (5, .int v5), (6, .int v6), (7, .int v7)] → k_142 v0 v1 v3 v4 v5 v6 v7 h = some (rr, hh) → W p l e (ab_rm 3 0 0) s m args below meth c H locs 0 0 (MQ below (ab_Q D cA sz (some (.int rr)) hh) args s 0 0 (fun q => sz ≤ q)) (F0 m 142 ls [])) {H : Heap} {locs : List Loc} {ls : Array Slot} {v0 : Option Nat} {v1 : Int32} {v3 : Int32} {v4 : Int32} {v5 : Int32} {v6 : Int32} {v7 : Int32} {h : Hp} (S : ab_H D cA sz h s H locs) (hl : lv_has ls 8 [(0, va_rf v0), (1, .int v1), (3, .int v3), (4, .int v4), (5, .int v5), (6, .int v6), (7, .int v7)]) (hF : f_X9_unlike_193 k_142 v0 v1 v3 v4 v5 v6 v7 h = some (rr, hh)) : W p l e (ab_rm 3 0 0) s m args below meth c H locs 0 0 (MQ below (ab_Q D cA sz (some (.int rr)) hh) args s 0 0 (fun q => sz ≤ q)) (F0 m 193 ls []) := by
  unfold f_X9_unlike_193 at hF
  refine lv_iinc (v := v7 + 1) (lv' := [(7, .int (v7 + 1)), (0, va_rf v0), (1, .int v1), (3, .int v3), (4, .int v4), (5, .int v5), (6, .int v6)]) X.1 X.2.1 dX9_unlike_193 hl (k := 6) rfl (by rfl) (by decide) (by simp [ab_cat, ab_cI, ab_cJ, ab_cD, ab_cF]) (fun ls hl => ?_)
  refine lv_goto (tgt := 142) X.1 X.2.1 dX9_unlike_196 (by decide) ?_
  exact hk_142 _ _ _ _ _ _ _ _ _ _ _ S (lv_sub hl [1, 2, 3, 4, 5, 6, 0] rfl) hF
def f_X9_unlike_142  : Nat → Option Nat → Int32 → Int32 → Int32 → Int32 → Int32 → Int32 → Hp → Option (Int32 × Hp)
  | 0, _, _, _, _, _, _, _, _ => none
  | n + 1, v0, v1, v3, v4, v5, v6, v7, h => if v4 ≤ v7 then
      f_X9_unlike_199 v6 h
    else
      if v5 ≤ v7 then
        f_X9_unlike_199 v6 h
      else
        (getR h v0 9 30).bind fun x3 =>
        (aldD h x3 ((6 * v1) + v7)).bind fun x4 =>
        bnd (f_X9_bits x4 h) fun x5 h6 =>
        (getR h6 v0 9 30).bind fun x8 =>
        (aldD h6 x8 ((6 * v3) + v7)).bind fun x9 =>
        bnd (f_X9_bits x9 h6) fun x10 h11 =>
        if (lg_cmp x5 x10) = 0 then
          f_X9_unlike_193 (f_X9_unlike_142 n) v0 v1 v3 v4 v5 v6 v7 h11
        else
          f_X9_unlike_193 (f_X9_unlike_142 n) v0 v1 v3 v4 v5 (v6 + 1) v7 h11
set_option maxHeartbeats 4000000 in
set_option maxRecDepth 100000 in
theorem w_X9_unlike_142 {p : Program} {l : Launch} {e : Env} {s : State} {m : MethodId} {args : Array Value} {below : List Frame} {meth : Method} {c : Code} {D : va_G} {cA : Nat → ClassId} {sz : Nat} {rr : Int32} {hh : Hp}  (X : ab_X p s m args meth c cX9_unlike 8 RX9 D cA sz) (hr : meth.sig.returnType = (some .int))  (n : Nat) : ∀ (v0 : Option Nat) (v1 : Int32) (v3 : Int32) (v4 : Int32) (v5 : Int32) (v6 : Int32) (v7 : Int32) (h : Hp) (H : Heap) (locs : List Loc) (ls : Array Slot), ab_H D cA sz h s H locs → lv_has ls 8 [(0, va_rf v0), (1, .int v1), (3, .int v3), (4, .int v4), (5, .int v5), (6, .int v6), (7, .int v7)] → f_X9_unlike_142 n v0 v1 v3 v4 v5 v6 v7 h = some (rr, hh) → W p l e (ab_rm 3 0 0) s m args below meth c H locs 0 0 (MQ below (ab_Q D cA sz (some (.int rr)) hh) args s 0 0 (fun q => sz ≤ q)) (F0 m 142 ls []) := by
  induction n with
  | zero => intro v0 v1 v3 v4 v5 v6 v7 h H locs ls S hl hF; cases hF
  | succ n ih =>
    intro v0 v1 v3 v4 v5 v6 v7 h H locs ls S hl hF
    rw [f_X9_unlike_142] at hF
    refine lv_iload X.1 X.2.1 dX9_unlike_142 (lv_at hl 6 rfl) ?_
    refine lv_iload X.1 X.2.1 dX9_unlike_144 (lv_at hl 3 rfl) ?_
    refine lv_icmp_ge (tgt := 199) X.1 X.2.1 dX9_unlike_146 (by decide) (fun c1 => ?_) (fun c1 => ?_)
    · have hF := ab_pos c1 hF
      exact w_X9_unlike_199 X hr  S (lv_sub hl [5] rfl) hF
    · have hF := ab_neg c1 hF
      refine lv_iload X.1 X.2.1 dX9_unlike_149 (lv_at hl 6 rfl) ?_
      refine lv_iload X.1 X.2.1 dX9_unlike_151 (lv_at hl 4 rfl) ?_
      refine lv_icmp_ge (tgt := 199) X.1 X.2.1 dX9_unlike_153 (by decide) (fun c2 => ?_) (fun c2 => ?_)
      · have hF := ab_pos c2 hF
        exact w_X9_unlike_199 X hr  S (lv_sub hl [5] rfl) hF
      · have hF := ab_neg c2 hF
        refine ab_aload_n X dX9_unlike_156 rfl (lv_at hl 0 rfl) ?_
        refine ab_getR X S hF fi_9_30 lf_X9_98 dX9_unlike_157 (fun x3 hF => ?_)
        refine lv_bipush (v := 6) X.1 X.2.1 dX9_unlike_160 (by decide) ?_
        refine lv_iload_n X.1 X.2.1 dX9_unlike_162 rfl (lv_at hl 1 rfl) ?_
        refine lv_imul X.1 X.2.1 dX9_unlike_163 ?_
        refine lv_iload X.1 X.2.1 dX9_unlike_164 (lv_at hl 6 rfl) ?_
        refine lv_iadd X.1 X.2.1 dX9_unlike_166 ?_
        refine ab_aldD X S hF dX9_unlike_167 (fun x4 hF => ?_)
        obtain ⟨x5, h6, e7, hF⟩ := bnd_out hF
        refine ab_callSl X S (c_X9_bits l D cA sz e7) mi_X9_bits lm_X9_377 lt_yX9_bits (As := [.double x4]) (rest := []) rfl ⟨by decide, by decide⟩ ⟨(by decide), (by decide)⟩ hl.1 rfl (by simp [ab_cat, ab_cI, ab_cJ, ab_cD, ab_cF]) dX9_unlike_168 (fun H1 locs1 S => ?_)
        refine ab_aload_n X dX9_unlike_171 rfl (lv_at hl 0 rfl) ?_
        refine ab_getR X S hF fi_9_30 lf_X9_98 dX9_unlike_172 (fun x8 hF => ?_)
        refine lv_bipush (v := 6) X.1 X.2.1 dX9_unlike_175 (by decide) ?_
        refine lv_iload_n X.1 X.2.1 dX9_unlike_177 rfl (lv_at hl 2 rfl) ?_
        refine lv_imul X.1 X.2.1 dX9_unlike_178 ?_
        refine lv_iload X.1 X.2.1 dX9_unlike_179 (lv_at hl 6 rfl) ?_
        refine lv_iadd X.1 X.2.1 dX9_unlike_181 ?_
        refine ab_aldD X S hF dX9_unlike_182 (fun x9 hF => ?_)
        obtain ⟨x10, h11, e12, hF⟩ := bnd_out hF
        refine ab_callSl X S (c_X9_bits l D cA sz e12) mi_X9_bits lm_X9_377 lt_yX9_bits (As := [.double x9]) (rest := [.long x5]) rfl ⟨by decide, by decide⟩ ⟨(by decide), (by decide)⟩ hl.1 rfl (by simp [ab_cat, ab_cI, ab_cJ, ab_cD, ab_cF]) dX9_unlike_183 (fun H1 locs1 S => ?_)
        refine W.lcmp X.1 X.2.1 dX9_unlike_186 ?_
        refine lv_if_eq (tgt := 193) X.1 X.2.1 dX9_unlike_187 (by decide) (fun c13 => ?_) (fun c13 => ?_)
        · have hF := ab_pos c13 hF
          exact w_X9_unlike_193 X hr ih S (lv_sub hl [0, 1, 2, 3, 4, 5, 6] rfl) hF
        · have hF := ab_neg c13 hF
          refine lv_iinc (v := v6 + 1) (lv' := [(6, .int (v6 + 1)), (0, va_rf v0), (1, .int v1), (3, .int v3), (4, .int v4), (5, .int v5), (7, .int v7)]) X.1 X.2.1 dX9_unlike_190 hl (k := 5) rfl (by rfl) (by decide) (by simp [ab_cat, ab_cI, ab_cJ, ab_cD, ab_cF]) (fun ls hl => ?_)
          exact w_X9_unlike_193 X hr ih S (lv_sub hl [1, 2, 3, 4, 5, 0, 6] rfl) hF
def f_X9_unlike_136  (v0 : Option Nat) (v1 : Int32) (v3 : Int32) (v4 : Int32) (v5 : Int32) (u0 : Int32) (u1 : Int32) (h : Hp) : Option (Int32 × Hp) :=
  f_X9_unlike_142 fuelN v0 v1 v3 v4 v5 (u1 + u0) 0 h
set_option maxHeartbeats 4000000 in
set_option maxRecDepth 100000 in
theorem w_X9_unlike_136 {p : Program} {l : Launch} {e : Env} {s : State} {m : MethodId} {args : Array Value} {below : List Frame} {meth : Method} {c : Code} {D : va_G} {cA : Nat → ClassId} {sz : Nat} {rr : Int32} {hh : Hp}  (X : ab_X p s m args meth c cX9_unlike 8 RX9 D cA sz) (hr : meth.sig.returnType = (some .int))  {H : Heap} {locs : List Loc} {ls : Array Slot} {v0 : Option Nat} {v1 : Int32} {v3 : Int32} {v4 : Int32} {v5 : Int32} {u0 : Int32} {u1 : Int32} {h : Hp} (S : ab_H D cA sz h s H locs) (hl : lv_has ls 8 [(0, va_rf v0), (1, .int v1), (3, .int v3), (4, .int v4), (5, .int v5)]) (hF : f_X9_unlike_136 v0 v1 v3 v4 v5 u0 u1 h = some (rr, hh)) : W p l e (ab_rm 3 0 0) s m args below meth c H locs 0 0 (MQ below (ab_Q D cA sz (some (.int rr)) hh) args s 0 0 (fun q => sz ≤ q)) (F0 m 136 ls [.int u0, .int u1]) := by
  unfold f_X9_unlike_136 at hF
  refine lv_iadd X.1 X.2.1 dX9_unlike_136 ?_
  refine lv_istore (lv' := [(6, .int (u1 + u0)), (0, va_rf v0), (1, .int v1), (3, .int v3), (4, .int v4), (5, .int v5)]) X.1 X.2.1 dX9_unlike_137 hl (by decide) (by simp [ab_cat, ab_cI, ab_cJ, ab_cD, ab_cF]) (fun ls hl => ?_)
  refine lv_iconst (v := 0) X.1 X.2.1 dX9_unlike_139 (by decide) ?_
  refine lv_istore (lv' := [(7, .int 0), (6, .int (u1 + u0)), (0, va_rf v0), (1, .int v1), (3, .int v3), (4, .int v4), (5, .int v5)]) X.1 X.2.1 dX9_unlike_140 hl (by decide) (by simp [ab_cat, ab_cI, ab_cJ, ab_cD, ab_cF]) (fun ls hl => ?_)
  exact w_X9_unlike_142 X hr  fuelN _ _ _ _ _ _ _ _ _ _ _ S (lv_sub hl [2, 3, 4, 5, 6, 1, 0] rfl) hF
def f_X9_unlike_115  (v0 : Option Nat) (v1 : Int32) (v3 : Int32) (v4 : Int32) (v5 : Int32) (u0 : Int32) (u1 : Int32) (h : Hp) : Option (Int32 × Hp) :=
  if v5 ≤ v4 then
    f_X9_unlike_136 v0 v1 v3 v4 v5 (v4 - v5) (u1 + u0) h
  else
    f_X9_unlike_136 v0 v1 v3 v4 v5 (v5 - v4) (u1 + u0) h
set_option maxHeartbeats 4000000 in
set_option maxRecDepth 100000 in
theorem w_X9_unlike_115 {p : Program} {l : Launch} {e : Env} {s : State} {m : MethodId} {args : Array Value} {below : List Frame} {meth : Method} {c : Code} {D : va_G} {cA : Nat → ClassId} {sz : Nat} {rr : Int32} {hh : Hp}  (X : ab_X p s m args meth c cX9_unlike 8 RX9 D cA sz) (hr : meth.sig.returnType = (some .int))  {H : Heap} {locs : List Loc} {ls : Array Slot} {v0 : Option Nat} {v1 : Int32} {v3 : Int32} {v4 : Int32} {v5 : Int32} {u0 : Int32} {u1 : Int32} {h : Hp} (S : ab_H D cA sz h s H locs) (hl : lv_has ls 8 [(0, va_rf v0), (1, .int v1), (3, .int v3), (4, .int v4), (5, .int v5)]) (hF : f_X9_unlike_115 v0 v1 v3 v4 v5 u0 u1 h = some (rr, hh)) : W p l e (ab_rm 3 0 0) s m args below meth c H locs 0 0 (MQ below (ab_Q D cA sz (some (.int rr)) hh) args s 0 0 (fun q => sz ≤ q)) (F0 m 115 ls [.int u0, .int u1]) := by
  unfold f_X9_unlike_115 at hF
  refine lv_iadd X.1 X.2.1 dX9_unlike_115 ?_
  refine lv_iload X.1 X.2.1 dX9_unlike_116 (lv_at hl 3 rfl) ?_
  refine lv_iload X.1 X.2.1 dX9_unlike_118 (lv_at hl 4 rfl) ?_
  refine lv_icmp_ge (tgt := 131) X.1 X.2.1 dX9_unlike_120 (by decide) (fun c1 => ?_) (fun c1 => ?_)
  · have hF := ab_pos c1 hF
    refine lv_iload X.1 X.2.1 dX9_unlike_131 (lv_at hl 3 rfl) ?_
    refine lv_iload X.1 X.2.1 dX9_unlike_133 (lv_at hl 4 rfl) ?_
    refine lv_isub X.1 X.2.1 dX9_unlike_135 ?_
    exact w_X9_unlike_136 X hr  S (lv_sub hl [0, 1, 2, 3, 4] rfl) hF
  · have hF := ab_neg c1 hF
    refine lv_iload X.1 X.2.1 dX9_unlike_123 (lv_at hl 4 rfl) ?_
    refine lv_iload X.1 X.2.1 dX9_unlike_125 (lv_at hl 3 rfl) ?_
    refine lv_isub X.1 X.2.1 dX9_unlike_127 ?_
    refine lv_goto (tgt := 136) X.1 X.2.1 dX9_unlike_128 (by decide) ?_
    exact w_X9_unlike_136 X hr  S (lv_sub hl [0, 1, 2, 3, 4] rfl) hF
def f_X9_unlike_88  (v0 : Option Nat) (v1 : Int32) (v3 : Int32) (v4 : Int32) (v5 : Int32) (u0 : Int32) (h : Hp) : Option (Int32 × Hp) :=
  (getR h v0 9 26).bind fun x1 =>
  (aldD h x1 v1).bind fun x2 =>
  bnd (f_X9_bits x2 h) fun x3 h4 =>
  (getR h4 v0 9 26).bind fun x6 =>
  (aldD h4 x6 v3).bind fun x7 =>
  bnd (f_X9_bits x7 h4) fun x8 h9 =>
  if (lg_cmp x3 x8) = 0 then
    f_X9_unlike_115 v0 v1 v3 v4 v5 0 u0 h9
  else
    f_X9_unlike_115 v0 v1 v3 v4 v5 1 u0 h9
set_option maxHeartbeats 4000000 in
set_option maxRecDepth 100000 in
theorem w_X9_unlike_88 {p : Program} {l : Launch} {e : Env} {s : State} {m : MethodId} {args : Array Value} {below : List Frame} {meth : Method} {c : Code} {D : va_G} {cA : Nat → ClassId} {sz : Nat} {rr : Int32} {hh : Hp}  (X : ab_X p s m args meth c cX9_unlike 8 RX9 D cA sz) (hr : meth.sig.returnType = (some .int))  {H : Heap} {locs : List Loc} {ls : Array Slot} {v0 : Option Nat} {v1 : Int32} {v3 : Int32} {v4 : Int32} {v5 : Int32} {u0 : Int32} {h : Hp} (S : ab_H D cA sz h s H locs) (hl : lv_has ls 8 [(0, va_rf v0), (1, .int v1), (3, .int v3), (4, .int v4), (5, .int v5)]) (hF : f_X9_unlike_88 v0 v1 v3 v4 v5 u0 h = some (rr, hh)) : W p l e (ab_rm 3 0 0) s m args below meth c H locs 0 0 (MQ below (ab_Q D cA sz (some (.int rr)) hh) args s 0 0 (fun q => sz ≤ q)) (F0 m 88 ls [.int u0]) := by
  unfold f_X9_unlike_88 at hF
  refine ab_aload_n X dX9_unlike_88 rfl (lv_at hl 0 rfl) ?_
  refine ab_getR X S hF fi_9_26 lf_X9_86 dX9_unlike_89 (fun x1 hF => ?_)
  refine lv_iload_n X.1 X.2.1 dX9_unlike_92 rfl (lv_at hl 1 rfl) ?_
  refine ab_aldD X S hF dX9_unlike_93 (fun x2 hF => ?_)
  obtain ⟨x3, h4, e5, hF⟩ := bnd_out hF
  refine ab_callSl X S (c_X9_bits l D cA sz e5) mi_X9_bits lm_X9_377 lt_yX9_bits (As := [.double x2]) (rest := [.int u0]) rfl ⟨by decide, by decide⟩ ⟨(by decide), (by decide)⟩ hl.1 rfl (by simp [ab_cat, ab_cI, ab_cJ, ab_cD, ab_cF]) dX9_unlike_94 (fun H1 locs1 S => ?_)
  refine ab_aload_n X dX9_unlike_97 rfl (lv_at hl 0 rfl) ?_
  refine ab_getR X S hF fi_9_26 lf_X9_86 dX9_unlike_98 (fun x6 hF => ?_)
  refine lv_iload_n X.1 X.2.1 dX9_unlike_101 rfl (lv_at hl 2 rfl) ?_
  refine ab_aldD X S hF dX9_unlike_102 (fun x7 hF => ?_)
  obtain ⟨x8, h9, e10, hF⟩ := bnd_out hF
  refine ab_callSl X S (c_X9_bits l D cA sz e10) mi_X9_bits lm_X9_377 lt_yX9_bits (As := [.double x7]) (rest := [.long x3, .int u0]) rfl ⟨by decide, by decide⟩ ⟨(by decide), (by decide)⟩ hl.1 rfl (by simp [ab_cat, ab_cI, ab_cJ, ab_cD, ab_cF]) dX9_unlike_103 (fun H1 locs1 S => ?_)
  refine W.lcmp X.1 X.2.1 dX9_unlike_106 ?_
  refine lv_if_eq (tgt := 114) X.1 X.2.1 dX9_unlike_107 (by decide) (fun c11 => ?_) (fun c11 => ?_)
  · have hF := ab_pos c11 hF
    refine lv_iconst (v := 0) X.1 X.2.1 dX9_unlike_114 (by decide) ?_
    exact w_X9_unlike_115 X hr  S (lv_sub hl [0, 1, 2, 3, 4] rfl) hF
  · have hF := ab_neg c11 hF
    refine lv_iconst (v := 1) X.1 X.2.1 dX9_unlike_110 (by decide) ?_
    refine lv_goto (tgt := 115) X.1 X.2.1 dX9_unlike_111 (by decide) ?_
    exact w_X9_unlike_115 X hr  S (lv_sub hl [0, 1, 2, 3, 4] rfl) hF
def f_X9_unlike (this : Nat) (p0 : Int32) (p1 : Int32) (h : Hp) : Option (Int32 × Hp) :=
  (ab_ck h (some this) (9, 0)).bind fun a4 =>
  bnd (f_X9_isRun a4 p0 h) fun x1 h2 =>
  if x1 = 0 then
    f_X9_unlike_17 h2
  else
    bnd (f_X9_in p1 0 3 h2) fun x7 h8 =>
    if ¬ x7 = 0 then
      (getR h8 (some this) 9 24).bind fun x11 =>
      (aldI h8 x11 12 p1).bind fun x12 =>
      if ¬ x12 = 0 then
        (getR h8 (some this) 9 0).bind fun x14 =>
        (getR h8 (some this) 9 15).bind fun x15 =>
        (aldI h8 x15 11 p0).bind fun x16 =>
        (aldI h8 x14 11 x16).bind fun x17 =>
        (getR h8 (some this) 9 0).bind fun x18 =>
        (getR h8 (some this) 9 15).bind fun x19 =>
        (aldI h8 x19 11 (4 + p1)).bind fun x20 =>
        (aldI h8 x18 11 x20).bind fun x21 =>
        (getR h8 (some this) 9 25).bind fun x22 =>
        (aldD h8 x22 p0).bind fun x23 =>
        bnd (f_X9_bits x23 h8) fun x24 h25 =>
        (getR h25 (some this) 9 25).bind fun x27 =>
        (aldD h25 x27 (4 + p1)).bind fun x28 =>
        bnd (f_X9_bits x28 h25) fun x29 h30 =>
        if (lg_cmp x24 x29) = 0 then
          f_X9_unlike_88 (some this) p0 (4 + p1) x17 x21 0 h30
        else
          f_X9_unlike_88 (some this) p0 (4 + p1) x17 x21 1 h30
      else
        some ((-2), h8)
    else
      f_X9_unlike_17 h8
theorem mi_X9_unlike : ab_MI yX9_unlike cX9_unlike 8 (some .int) 2 := ⟨lc_yX9_unlike, lz_RX9, by decide, by decide, by decide +kernel⟩
set_option maxHeartbeats 4000000 in
set_option maxRecDepth 100000 in
theorem c_X9_unlike (l : Launch) (D : va_G) (cA : Nat → ClassId) (sz : Nat) {this : Nat} {p0 : Int32} {p1 : Int32} {h hh : Hp} {rr : Int32} (hF : f_X9_unlike this p0 p1 h = some (rr, hh)) : ab_C l D cA sz yX9_unlike cX9_unlike 8 (some .int) 3 0 0 [.ref this, .int p0, .int p1] h (some (.int rr)) hh := by
  refine Met.ofW (cc := cX9_unlike) (maxL := 8) (ret := (some .int)) (by decide) rfl ?_
  intro p e s m args below meth c s₁ B hml hv
  obtain ⟨rfl, hT, hR⟩ := hv
  have X : ab_X p s m _ meth c cX9_unlike 8 RX9 D cA sz := (ab_enter B hml hT hR).1
  have S := (ab_enter B hml hT hR).2
  have hr := B.returns
  obtain ⟨ls, hls, hl⟩ := ab_entry m [.ref this, .int p0, .int p1] 8 (lv := [(0, .ref this), (1, .int p0), (2, .int p1)]) (by simp [lg_sl, ab_cat, ab_cI, ab_cJ, ab_cD, ab_cF, ab_cA]) (by simp [lv_args, ab_cat, ab_cI, ab_cJ, ab_cD, ab_cF, ab_cA])
  rw [hls]
  have hl : lv_has ls 8 [(0, va_rf (some this)), (1, .int p0), (2, .int p1)] := hl
  unfold f_X9_unlike at hF
  show W p l e (ab_rm 3 0 0) s m _ below meth c s.heap [] 0 0 _ _
  refine ab_aload_n X dX9_unlike_0 rfl (lv_at hl 0 rfl) ?_
  refine lv_iload_n X.1 X.2.1 dX9_unlike_1 rfl (lv_at hl 1 rfl) ?_
  obtain ⟨a4, e5, hF⟩ := bind_out hF
  obtain ⟨x1, h2, e3, hF⟩ := bnd_out hF
  refine ab_callVi X S e5 (c_X9_isRun l D cA sz e3) rfl (by decide) mi_X9_isRun lm_X9_366 li_yX9_isRun ls_yX9_isRun (As := [.int p0]) (rest := []) rfl ⟨by decide, by decide⟩ ⟨(by decide), (by decide)⟩ hl.1 rfl (by simp [ab_cat, ab_cI, ab_cJ, ab_cD, ab_cF]) dX9_unlike_2 (fun H1 locs1 S => ?_)
  refine lv_if_eq (tgt := 17) X.1 X.2.1 dX9_unlike_5 (by decide) (fun c6 => ?_) (fun c6 => ?_)
  · have hF := ab_pos c6 hF
    exact w_X9_unlike_17 X hr  S (lv_sub hl [] rfl) hF
  · have hF := ab_neg c6 hF
    refine lv_iload_n X.1 X.2.1 dX9_unlike_8 rfl (lv_at hl 2 rfl) ?_
    refine lv_iconst (v := 0) X.1 X.2.1 dX9_unlike_9 (by decide) ?_
    refine lv_iconst (v := 3) X.1 X.2.1 dX9_unlike_10 (by decide) ?_
    obtain ⟨x7, h8, e9, hF⟩ := bnd_out hF
    refine ab_callSi X S (c_X9_in l D cA sz e9) mi_X9_in lm_X9_343 lt_yX9_in (As := [.int p1, .int 0, .int 3]) (rest := []) rfl ⟨by decide, by decide⟩ ⟨(by decide), (by decide)⟩ hl.1 rfl (by simp [ab_cat, ab_cI, ab_cJ, ab_cD, ab_cF]) dX9_unlike_11 (fun H1 locs1 S => ?_)
    refine lv_if_ne (tgt := 19) X.1 X.2.1 dX9_unlike_14 (by decide) (fun c10 => ?_) (fun c10 => ?_)
    · have hF := ab_pos c10 hF
      refine ab_aload_n X dX9_unlike_19 rfl (lv_at hl 0 rfl) ?_
      refine ab_getR X S hF fi_9_24 lf_X9_80 dX9_unlike_20 (fun x11 hF => ?_)
      refine lv_iload_n X.1 X.2.1 dX9_unlike_23 rfl (lv_at hl 2 rfl) ?_
      refine ab_aldZ X S hF dX9_unlike_24 (fun x12 hF => ?_)
      refine lv_if_ne (tgt := 31) X.1 X.2.1 dX9_unlike_25 (by decide) (fun c13 => ?_) (fun c13 => ?_)
      · have hF := ab_pos c13 hF
        refine lv_iconst (v := 4) X.1 X.2.1 dX9_unlike_31 (by decide) ?_
        refine lv_iload_n X.1 X.2.1 dX9_unlike_32 rfl (lv_at hl 2 rfl) ?_
        refine lv_iadd X.1 X.2.1 dX9_unlike_33 ?_
        refine lv_istore_n (i := 3) (lv' := [(3, .int (4 + p1)), (0, va_rf (some this)), (1, .int p0), (2, .int p1)]) X.1 X.2.1 dX9_unlike_34 rfl hl (by decide) (by simp [ab_cat, ab_cI, ab_cJ, ab_cD, ab_cF]) (fun ls hl => ?_)
        refine ab_aload_n X dX9_unlike_35 rfl (lv_at hl 1 rfl) ?_
        refine ab_getR X S hF fi_9_0 lf_X9_9 dX9_unlike_36 (fun x14 hF => ?_)
        refine ab_aload_n X dX9_unlike_39 rfl (lv_at hl 1 rfl) ?_
        refine ab_getR X S hF fi_9_15 lf_X9_52 dX9_unlike_40 (fun x15 hF => ?_)
        refine lv_iload_n X.1 X.2.1 dX9_unlike_43 rfl (lv_at hl 2 rfl) ?_
        refine ab_aldI X S hF dX9_unlike_44 (fun x16 hF => ?_)
        refine ab_aldI X S hF dX9_unlike_45 (fun x17 hF => ?_)
        refine lv_istore (lv' := [(4, .int x17), (3, .int (4 + p1)), (0, va_rf (some this)), (1, .int p0), (2, .int p1)]) X.1 X.2.1 dX9_unlike_46 hl (by decide) (by simp [ab_cat, ab_cI, ab_cJ, ab_cD, ab_cF]) (fun ls hl => ?_)
        refine ab_aload_n X dX9_unlike_48 rfl (lv_at hl 2 rfl) ?_
        refine ab_getR X S hF fi_9_0 lf_X9_9 dX9_unlike_49 (fun x18 hF => ?_)
        refine ab_aload_n X dX9_unlike_52 rfl (lv_at hl 2 rfl) ?_
        refine ab_getR X S hF fi_9_15 lf_X9_52 dX9_unlike_53 (fun x19 hF => ?_)
        refine lv_iload_n X.1 X.2.1 dX9_unlike_56 rfl (lv_at hl 1 rfl) ?_
        refine ab_aldI X S hF dX9_unlike_57 (fun x20 hF => ?_)
        refine ab_aldI X S hF dX9_unlike_58 (fun x21 hF => ?_)
        refine lv_istore (lv' := [(5, .int x21), (4, .int x17), (3, .int (4 + p1)), (0, va_rf (some this)), (1, .int p0), (2, .int p1)]) X.1 X.2.1 dX9_unlike_59 hl (by decide) (by simp [ab_cat, ab_cI, ab_cJ, ab_cD, ab_cF]) (fun ls hl => ?_)
        refine ab_aload_n X dX9_unlike_61 rfl (lv_at hl 3 rfl) ?_
        refine ab_getR X S hF fi_9_25 lf_X9_83 dX9_unlike_62 (fun x22 hF => ?_)
        refine lv_iload_n X.1 X.2.1 dX9_unlike_65 rfl (lv_at hl 4 rfl) ?_
        refine ab_aldD X S hF dX9_unlike_66 (fun x23 hF => ?_)
        obtain ⟨x24, h25, e26, hF⟩ := bnd_out hF
        refine ab_callSl X S (c_X9_bits l D cA sz e26) mi_X9_bits lm_X9_377 lt_yX9_bits (As := [.double x23]) (rest := []) rfl ⟨by decide, by decide⟩ ⟨(by decide), (by decide)⟩ hl.1 rfl (by simp [ab_cat, ab_cI, ab_cJ, ab_cD, ab_cF]) dX9_unlike_67 (fun H1 locs1 S => ?_)
        refine ab_aload_n X dX9_unlike_70 rfl (lv_at hl 3 rfl) ?_
        refine ab_getR X S hF fi_9_25 lf_X9_83 dX9_unlike_71 (fun x27 hF => ?_)
        refine lv_iload_n X.1 X.2.1 dX9_unlike_74 rfl (lv_at hl 2 rfl) ?_
        refine ab_aldD X S hF dX9_unlike_75 (fun x28 hF => ?_)
        obtain ⟨x29, h30, e31, hF⟩ := bnd_out hF
        refine ab_callSl X S (c_X9_bits l D cA sz e31) mi_X9_bits lm_X9_377 lt_yX9_bits (As := [.double x28]) (rest := [.long x24]) rfl ⟨by decide, by decide⟩ ⟨(by decide), (by decide)⟩ hl.1 rfl (by simp [ab_cat, ab_cI, ab_cJ, ab_cD, ab_cF]) dX9_unlike_76 (fun H1 locs1 S => ?_)
        refine W.lcmp X.1 X.2.1 dX9_unlike_79 ?_
        refine lv_if_eq (tgt := 87) X.1 X.2.1 dX9_unlike_80 (by decide) (fun c32 => ?_) (fun c32 => ?_)
        · have hF := ab_pos c32 hF
          refine lv_iconst (v := 0) X.1 X.2.1 dX9_unlike_87 (by decide) ?_
          exact w_X9_unlike_88 X hr  S (lv_sub hl [3, 4, 2, 1, 0] rfl) hF
        · have hF := ab_neg c32 hF
          refine lv_iconst (v := 1) X.1 X.2.1 dX9_unlike_83 (by decide) ?_
          refine lv_goto (tgt := 88) X.1 X.2.1 dX9_unlike_84 (by decide) ?_
          exact w_X9_unlike_88 X hr  S (lv_sub hl [3, 4, 2, 1, 0] rfl) hF
      · have hF := ab_neg (fun q => q c13) hF
        refine lv_bipush (v := (-2)) X.1 X.2.1 dX9_unlike_28 (by decide) ?_
        exact ab_iret X S hr hF dX9_unlike_30
    · have hF := ab_neg (fun q => q c10) hF
      exact w_X9_unlike_17 X hr  S (lv_sub hl [] rfl) hF
def f_X1_reckonNodes_3  : Nat → Option Nat → UInt64 → Option Nat → Int32 → Int32 → Hp → Option (Unit × Hp)
  | 0, _, _, _, _, _, _ => none
  | n + 1, v0, v1, v3, v4, v5, h => if v4 ≤ v5 then
      some ((), h)
    else
      (getR h v0 1 4).bind fun x2 =>
      (ab_ck h x2 (2, 0)).bind fun a6 =>
      bnd (f_X2_begin a6 h) fun _ h4 =>
      (ab_ck h4 v0 (1, 0)).bind fun a11 =>
      bnd (f_X1_reckoned a11 v5 v1 v3 h4) fun x8 h9 =>
      (getR h9 v0 1 13).bind fun x13 =>
      (getR h9 v0 1 4).bind fun x14 =>
      (getI h9 x14 2 1).bind fun x15 =>
      (ab_ck h9 x13 (3, 0)).bind fun a19 =>
      bnd (f_X3_put a19 v5 x8 x15 0 h9) fun _ h17 =>
      f_X1_reckonNodes_3 n v0 v1 v3 v4 (v5 + 1) h17
set_option maxHeartbeats 4000000 in
set_option maxRecDepth 100000 in
theorem w_X1_reckonNodes_3 {p : Program} {l : Launch} {e : Env} {s : State} {m : MethodId} {args : Array Value} {below : List Frame} {meth : Method} {c : Code} {D : va_G} {cA : Nat → ClassId} {sz : Nat}  {hh : Hp}  (X : ab_X p s m args meth c cX1_reckonNodes 8 RX1 D cA sz) (hr : meth.sig.returnType = none)  (n : Nat) : ∀ (v0 : Option Nat) (v1 : UInt64) (v3 : Option Nat) (v4 : Int32) (v5 : Int32) (h : Hp) (H : Heap) (locs : List Loc) (ls : Array Slot), ab_H D cA sz h s H locs → lv_has ls 8 [(0, va_rf v0), (1, .double v1), (3, va_rf v3), (4, .int v4), (5, .int v5)] → f_X1_reckonNodes_3 n v0 v1 v3 v4 v5 h = some ((), hh) → W p l e (ab_rm 2 0 0) s m args below meth c H locs 0 0 (MQ below (ab_Q D cA sz none hh) args s 0 0 (fun q => sz ≤ q)) (F0 m 3 ls []) := by
  induction n with
  | zero => intro v0 v1 v3 v4 v5 h H locs ls S hl hF; cases hF
  | succ n ih =>
    intro v0 v1 v3 v4 v5 h H locs ls S hl hF
    rw [f_X1_reckonNodes_3] at hF
    refine lv_iload X.1 X.2.1 dX1_reckonNodes_3 (lv_at hl 4 rfl) ?_
    refine lv_iload X.1 X.2.1 dX1_reckonNodes_5 (lv_at hl 3 rfl) ?_
    refine lv_icmp_ge (tgt := 52) X.1 X.2.1 dX1_reckonNodes_7 (by decide) (fun c1 => ?_) (fun c1 => ?_)
    · have hF := ab_pos c1 hF
      exact ab_vret X S hr hF dX1_reckonNodes_52
    · have hF := ab_neg c1 hF
      refine ab_aload_n X dX1_reckonNodes_10 rfl (lv_at hl 0 rfl) ?_
      refine ab_getR X S hF fi_1_4 lf_X1_25 dX1_reckonNodes_11 (fun x2 hF => ?_)
      obtain ⟨a6, e7, hF⟩ := bind_out hF
      obtain ⟨x3, h4, e5, hF⟩ := bnd_out hF
      refine ab_callVv X S e7 (c_X2_begin l D cA sz e5) rfl (by decide) mi_X2_begin lm_X1_70 li_yX2_begin ls_yX2_begin (As := []) (rest := []) rfl ⟨by decide, by decide⟩ ⟨(by decide), (by decide)⟩ hl.1 rfl (by simp [ab_cat, ab_cI, ab_cJ, ab_cD, ab_cF]) dX1_reckonNodes_14 (fun H1 locs1 S => ?_)
      refine ab_aload_n X dX1_reckonNodes_17 rfl (lv_at hl 0 rfl) ?_
      refine lv_iload X.1 X.2.1 dX1_reckonNodes_18 (lv_at hl 4 rfl) ?_
      refine lv_dload_n X.1 X.2.1 dX1_reckonNodes_20 rfl (lv_at hl 1 rfl) ?_
      refine ab_aload_n X dX1_reckonNodes_21 rfl (lv_at hl 2 rfl) ?_
      obtain ⟨a11, e12, hF⟩ := bind_out hF
      obtain ⟨x8, h9, e10, hF⟩ := bnd_out hF
      refine ab_callVd X S e12 (c_X1_reckoned l D cA sz e10) rfl (by decide) mi_X1_reckoned lm_X1_75 li_yX1_reckoned ls_yX1_reckoned (As := [.int v5, .double v1, va_rf v3]) (rest := []) rfl ⟨by decide, by decide⟩ ⟨(by decide), (by decide)⟩ hl.1 rfl (by simp [ab_cat, ab_cI, ab_cJ, ab_cD, ab_cF]) dX1_reckonNodes_22 (fun H1 locs1 S => ?_)
      refine lv_dstore (lv' := [(6, .double x8), (0, va_rf v0), (1, .double v1), (3, va_rf v3), (4, .int v4), (5, .int v5)]) X.1 X.2.1 dX1_reckonNodes_25 hl (by decide) (by simp [ab_cat, ab_cI, ab_cJ, ab_cD, ab_cF]) (fun ls hl => ?_)
      refine ab_aload_n X dX1_reckonNodes_27 rfl (lv_at hl 1 rfl) ?_
      refine ab_getR X S hF fi_1_13 lf_X1_51 dX1_reckonNodes_28 (fun x13 hF => ?_)
      refine lv_iload X.1 X.2.1 dX1_reckonNodes_31 (lv_at hl 5 rfl) ?_
      refine lv_dload X.1 X.2.1 dX1_reckonNodes_33 (lv_at hl 0 rfl) ?_
      refine ab_aload_n X dX1_reckonNodes_35 rfl (lv_at hl 1 rfl) ?_
      refine ab_getR X S hF fi_1_4 lf_X1_25 dX1_reckonNodes_36 (fun x14 hF => ?_)
      refine ab_getI X S hF fi_2_1 lf_X1_79 dX1_reckonNodes_39 (fun x15 hF => ?_)
      refine lv_iconst (v := 0) X.1 X.2.1 dX1_reckonNodes_42 (by decide) ?_
      obtain ⟨a19, e20, hF⟩ := bind_out hF
      obtain ⟨x16, h17, e18, hF⟩ := bnd_out hF
      refine ab_callVv X S e20 (c_X3_put l D cA sz e18) rfl (by decide) mi_X3_put lm_X1_83 li_yX3_put ls_yX3_put (As := [.int v5, .double x8, .int x15, .int 0]) (rest := []) rfl ⟨by decide, by decide⟩ ⟨(by decide), (by decide)⟩ hl.1 rfl (by simp [ab_cat, ab_cI, ab_cJ, ab_cD, ab_cF]) dX1_reckonNodes_43 (fun H1 locs1 S => ?_)
      refine lv_iinc (v := v5 + 1) (lv' := [(5, .int (v5 + 1)), (6, .double x8), (0, va_rf v0), (1, .double v1), (3, va_rf v3), (4, .int v4)]) X.1 X.2.1 dX1_reckonNodes_46 hl (k := 5) rfl (by rfl) (by decide) (by simp [ab_cat, ab_cI, ab_cJ, ab_cD, ab_cF]) (fun ls hl => ?_)
      refine lv_goto (tgt := 3) X.1 X.2.1 dX1_reckonNodes_49 (by decide) ?_
      exact ih _ _ _ _ _ _ _ _ _ S (lv_sub hl [2, 3, 4, 5, 0] rfl) hF
def f_X1_reckonNodes (this : Nat) (p0 : UInt64) (p1 : Option Nat) (p2 : Int32) (h : Hp) : Option (Unit × Hp) :=
  f_X1_reckonNodes_3 fuelN (some this) p0 p1 p2 0 h
theorem mi_X1_reckonNodes : ab_MI yX1_reckonNodes cX1_reckonNodes 8 none 3 := ⟨lc_yX1_reckonNodes, lz_RX1, by decide, by decide, by decide +kernel⟩
set_option maxHeartbeats 4000000 in
set_option maxRecDepth 100000 in
theorem c_X1_reckonNodes (l : Launch) (D : va_G) (cA : Nat → ClassId) (sz : Nat) {this : Nat} {p0 : UInt64} {p1 : Option Nat} {p2 : Int32} {h hh : Hp}  (hF : f_X1_reckonNodes this p0 p1 p2 h = some ((), hh)) : ab_C l D cA sz yX1_reckonNodes cX1_reckonNodes 8 none 2 0 0 [.ref this, .double p0, va_rf p1, .int p2] h none hh := by
  refine Met.ofW (cc := cX1_reckonNodes) (maxL := 8) (ret := none) (by decide) rfl ?_
  intro p e s m args below meth c s₁ B hml hv
  obtain ⟨rfl, hT, hR⟩ := hv
  have X : ab_X p s m _ meth c cX1_reckonNodes 8 RX1 D cA sz := (ab_enter B hml hT hR).1
  have S := (ab_enter B hml hT hR).2
  have hr := B.returns
  obtain ⟨ls, hls, hl⟩ := ab_entry m [.ref this, .double p0, va_rf p1, .int p2] 8 (lv := [(0, .ref this), (1, .double p0), (3, va_rf p1), (4, .int p2)]) (by simp [lg_sl, ab_cat, ab_cI, ab_cJ, ab_cD, ab_cF, ab_cA]) (by simp [lv_args, ab_cat, ab_cI, ab_cJ, ab_cD, ab_cF, ab_cA])
  rw [hls]
  have hl : lv_has ls 8 [(0, va_rf (some this)), (1, .double p0), (3, va_rf p1), (4, .int p2)] := hl
  unfold f_X1_reckonNodes at hF
  show W p l e (ab_rm 2 0 0) s m _ below meth c s.heap [] 0 0 _ _
  refine lv_iconst (v := 0) X.1 X.2.1 dX1_reckonNodes_0 (by decide) ?_
  refine lv_istore (lv' := [(5, .int 0), (0, va_rf (some this)), (1, .double p0), (3, va_rf p1), (4, .int p2)]) X.1 X.2.1 dX1_reckonNodes_1 hl (by decide) (by simp [ab_cat, ab_cI, ab_cJ, ab_cD, ab_cF]) (fun ls hl => ?_)
  exact w_X1_reckonNodes_3 X hr  fuelN _ _ _ _ _ _ _ _ _ S (lv_sub hl [1, 2, 3, 4, 0] rfl) hF
def f_X4_search_91 (k_8 : Option Nat → Int32 → Int32 → UInt64 → UInt64 → Int32 → Hp → Option (UInt64 × Hp)) (v0 : Option Nat) (v1 : Int32) (v2 : Int32) (v3 : UInt64) (v5 : UInt64) (v7 : Int32) (h : Hp) : Option (UInt64 × Hp) :=
  k_8 v0 v1 v2 v3 v5 (v7 + 1) h
set_option maxHeartbeats 4000000 in
set_option maxRecDepth 100000 in
theorem w_X4_search_91 {p : Program} {l : Launch} {e : Env} {s : State} {m : MethodId} {args : Array Value} {below : List Frame} {meth : Method} {c : Code} {D : va_G} {cA : Nat → ClassId} {sz : Nat} {rr : UInt64} {hh : Hp} {k_8 : Option Nat → Int32 → Int32 → UInt64 → UInt64 → Int32 → Hp → Option (UInt64 × Hp)} (X : ab_X p s m args meth c cX4_search 11 RX4 D cA sz) (hr : meth.sig.returnType = (some .double)) (hk_8 : ∀ (v0 : Option Nat) (v1 : Int32) (v2 : Int32) (v3 : UInt64) (v5 : UInt64) (v7 : Int32) (h : Hp) (H : Heap) (locs : List Loc) (ls : Array Slot), ab_H D cA sz h s H locs → lv_has ls 11 [(0, va_rf v0), (1, .int v1), (2, .int v2), (3, .double v3), (5, .double v5), (7, .int v7)] → k_8 v0 v1 v2 v3 v5 v7 h = some (rr, hh) → W p l e (ab_rm 3 0 0) s m args below meth c H locs 0 0 (MQ below (ab_Q D cA sz (some (.double rr)) hh) args s 0 0 (fun q => sz ≤ q)) (F0 m 8 ls [])) {H : Heap} {locs : List Loc} {ls : Array Slot} {v0 : Option Nat} {v1 : Int32} {v2 : Int32} {v3 : UInt64} {v5 : UInt64} {v7 : Int32} {h : Hp} (S : ab_H D cA sz h s H locs) (hl : lv_has ls 11 [(0, va_rf v0), (1, .int v1), (2, .int v2), (3, .double v3), (5, .double v5), (7, .int v7)]) (hF : f_X4_search_91 k_8 v0 v1 v2 v3 v5 v7 h = some (rr, hh)) : W p l e (ab_rm 3 0 0) s m args below meth c H locs 0 0 (MQ below (ab_Q D cA sz (some (.double rr)) hh) args s 0 0 (fun q => sz ≤ q)) (F0 m 91 ls []) := by
  unfold f_X4_search_91 at hF
  refine lv_iinc (v := v7 + 1) (lv' := [(7, .int (v7 + 1)), (0, va_rf v0), (1, .int v1), (2, .int v2), (3, .double v3), (5, .double v5)]) X.1 X.2.1 dX4_search_91 hl (k := 5) rfl (by rfl) (by decide) (by simp [ab_cat, ab_cI, ab_cJ, ab_cD, ab_cF]) (fun ls hl => ?_)
  refine lv_goto (tgt := 8) X.1 X.2.1 dX4_search_94 (by decide) ?_
  exact hk_8 _ _ _ _ _ _ _ _ _ _ S (lv_sub hl [1, 2, 3, 4, 5, 0] rfl) hF
def f_X4_search_81 (k_8 : Option Nat → Int32 → Int32 → UInt64 → UInt64 → Int32 → Hp → Option (UInt64 × Hp)) (v0 : Option Nat) (v1 : Int32) (v2 : Int32) (v3 : UInt64) (v7 : Int32) (v8 : UInt64) (h : Hp) : Option (UInt64 × Hp) :=
  f_X4_search_91 k_8 v0 v1 v2 v3 v8 v7 h
set_option maxHeartbeats 4000000 in
set_option maxRecDepth 100000 in
theorem w_X4_search_81 {p : Program} {l : Launch} {e : Env} {s : State} {m : MethodId} {args : Array Value} {below : List Frame} {meth : Method} {c : Code} {D : va_G} {cA : Nat → ClassId} {sz : Nat} {rr : UInt64} {hh : Hp} {k_8 : Option Nat → Int32 → Int32 → UInt64 → UInt64 → Int32 → Hp → Option (UInt64 × Hp)} (X : ab_X p s m args meth c cX4_search 11 RX4 D cA sz) (hr : meth.sig.returnType = (some .double)) (hk_8 : ∀ (v0 : Option Nat) (v1 : Int32) (v2 : Int32) (v3 : UInt64) (v5 : UInt64) (v7 : Int32) (h : Hp) (H : Heap) (locs : List Loc) (ls : Array Slot), ab_H D cA sz h s H locs → lv_has ls 11 [(0, va_rf v0), (1, .int v1), (2, .int v2), (3, .double v3), (5, .double v5), (7, .int v7)] → k_8 v0 v1 v2 v3 v5 v7 h = some (rr, hh) → W p l e (ab_rm 3 0 0) s m args below meth c H locs 0 0 (MQ below (ab_Q D cA sz (some (.double rr)) hh) args s 0 0 (fun q => sz ≤ q)) (F0 m 8 ls [])) {H : Heap} {locs : List Loc} {ls : Array Slot} {v0 : Option Nat} {v1 : Int32} {v2 : Int32} {v3 : UInt64} {v7 : Int32} {v8 : UInt64} {h : Hp} (S : ab_H D cA sz h s H locs) (hl : lv_has ls 11 [(0, va_rf v0), (1, .int v1), (2, .int v2), (3, .double v3), (7, .int v7), (8, .double v8)]) (hF : f_X4_search_81 k_8 v0 v1 v2 v3 v7 v8 h = some (rr, hh)) : W p l e (ab_rm 3 0 0) s m args below meth c H locs 0 0 (MQ below (ab_Q D cA sz (some (.double rr)) hh) args s 0 0 (fun q => sz ≤ q)) (F0 m 81 ls []) := by
  unfold f_X4_search_81 at hF
  refine lv_dload X.1 X.2.1 dX4_search_81 (lv_at hl 5 rfl) ?_
  refine lv_dstore (lv' := [(5, .double v8), (0, va_rf v0), (1, .int v1), (2, .int v2), (3, .double v3), (7, .int v7), (8, .double v8)]) X.1 X.2.1 dX4_search_83 hl (by decide) (by simp [ab_cat, ab_cI, ab_cJ, ab_cD, ab_cF]) (fun ls hl => ?_)
  refine lv_goto (tgt := 91) X.1 X.2.1 dX4_search_85 (by decide) ?_
  exact w_X4_search_91 X hr hk_8 S (lv_sub hl [1, 2, 3, 4, 0, 5] rfl) hF
def f_X4_search_8  : Nat → Option Nat → Int32 → Int32 → UInt64 → UInt64 → Int32 → Hp → Option (UInt64 × Hp)
  | 0, _, _, _, _, _, _, _ => none
  | n + 1, v0, v1, v2, v3, v5, v7, h => if 30 ≤ v7 then
      some (v5, h)
    else
      (fop (FP.dadd v3 v5)).bind fun x2 =>
      (fop (FP.ddiv x2 4611686018427387904)).bind fun x3 =>
      (getR h v0 4 11).bind fun x4 =>
      (ab_ck h x4 (6, 0)).bind fun a8 =>
      bnd (f_X6_blendAll a8 x3 h) fun _ h6 =>
      (getR h6 v0 4 0).bind fun x10 =>
      (getR h6 v0 4 11).bind fun x11 =>
      (ab_ck h6 x11 (6, 0)).bind fun a15 =>
      bnd (f_X6_timeAt a15 x3 h6) fun x12 h13 =>
      (getR h13 v0 4 11).bind fun x17 =>
      (getR h13 x17 6 7).bind fun x18 =>
      (ab_ck h13 x10 (1, 0)).bind fun a22 =>
      bnd (f_X1_reckonNodes a22 x12 x18 (v1 + 1) h13) fun _ h20 =>
      (getR h20 v0 4 0).bind fun x24 =>
      (ab_ck h20 x24 (1, 0)).bind fun a28 =>
      bnd (f_X1_signOf a28 v1 h20) fun x25 h26 =>
      if x25 = 0 then
        f_X4_search_81 (f_X4_search_8 n) v0 v1 v2 v3 v7 x3 h26
      else
        if ¬ x25 = v2 then
          f_X4_search_91 (f_X4_search_8 n) v0 v1 v2 x3 v5 v7 h26
        else
          f_X4_search_81 (f_X4_search_8 n) v0 v1 v2 v3 v7 x3 h26
set_option maxHeartbeats 4000000 in
set_option maxRecDepth 100000 in
theorem w_X4_search_8 {p : Program} {l : Launch} {e : Env} {s : State} {m : MethodId} {args : Array Value} {below : List Frame} {meth : Method} {c : Code} {D : va_G} {cA : Nat → ClassId} {sz : Nat} {rr : UInt64} {hh : Hp}  (X : ab_X p s m args meth c cX4_search 11 RX4 D cA sz) (hr : meth.sig.returnType = (some .double))  (n : Nat) : ∀ (v0 : Option Nat) (v1 : Int32) (v2 : Int32) (v3 : UInt64) (v5 : UInt64) (v7 : Int32) (h : Hp) (H : Heap) (locs : List Loc) (ls : Array Slot), ab_H D cA sz h s H locs → lv_has ls 11 [(0, va_rf v0), (1, .int v1), (2, .int v2), (3, .double v3), (5, .double v5), (7, .int v7)] → f_X4_search_8 n v0 v1 v2 v3 v5 v7 h = some (rr, hh) → W p l e (ab_rm 3 0 0) s m args below meth c H locs 0 0 (MQ below (ab_Q D cA sz (some (.double rr)) hh) args s 0 0 (fun q => sz ≤ q)) (F0 m 8 ls []) := by
  induction n with
  | zero => intro v0 v1 v2 v3 v5 v7 h H locs ls S hl hF; cases hF
  | succ n ih =>
    intro v0 v1 v2 v3 v5 v7 h H locs ls S hl hF
    rw [f_X4_search_8] at hF
    refine lv_iload X.1 X.2.1 dX4_search_8 (lv_at hl 5 rfl) ?_
    refine lv_bipush (v := 30) X.1 X.2.1 dX4_search_10 (by decide) ?_
    refine lv_icmp_ge (tgt := 97) X.1 X.2.1 dX4_search_12 (by decide) (fun c1 => ?_) (fun c1 => ?_)
    · have hF := ab_pos c1 hF
      refine lv_dload X.1 X.2.1 dX4_search_97 (lv_at hl 4 rfl) ?_
      exact ab_dret X S hr hF dX4_search_99
    · have hF := ab_neg c1 hF
      refine lv_dload_n X.1 X.2.1 dX4_search_15 rfl (lv_at hl 3 rfl) ?_
      refine lv_dload X.1 X.2.1 dX4_search_16 (lv_at hl 4 rfl) ?_
      obtain ⟨x2, ev, ne, hF⟩ := ab_fopx hF
      refine lv_dadd X.1 X.2.1 dX4_search_18 ne ?_
      rw [ev]
      refine lv_ldc2d (v := 4611686018427387904) X.1 X.2.1 X.2.2.2.1 (X.2.2.2.2.1 _ ld_X4_143) dX4_search_19 ?_
      obtain ⟨x3, ev, ne, hF⟩ := ab_fopx hF
      refine lv_ddiv X.1 X.2.1 dX4_search_22 ne ?_
      rw [ev]
      refine lv_dstore (lv' := [(8, .double x3), (0, va_rf v0), (1, .int v1), (2, .int v2), (3, .double v3), (5, .double v5), (7, .int v7)]) X.1 X.2.1 dX4_search_23 hl (by decide) (by simp [ab_cat, ab_cI, ab_cJ, ab_cD, ab_cF]) (fun ls hl => ?_)
      refine ab_aload_n X dX4_search_25 rfl (lv_at hl 1 rfl) ?_
      refine ab_getR X S hF fi_4_11 lf_X4_57 dX4_search_26 (fun x4 hF => ?_)
      refine lv_dload X.1 X.2.1 dX4_search_29 (lv_at hl 0 rfl) ?_
      obtain ⟨a8, e9, hF⟩ := bind_out hF
      obtain ⟨x5, h6, e7, hF⟩ := bnd_out hF
      refine ab_callVv X S e9 (c_X6_blendAll l D cA sz e7) rfl (by decide) mi_X6_blendAll lm_X4_149 li_yX6_blendAll ls_yX6_blendAll (As := [.double x3]) (rest := []) rfl ⟨by decide, by decide⟩ ⟨(by decide), (by decide)⟩ hl.1 rfl (by simp [ab_cat, ab_cI, ab_cJ, ab_cD, ab_cF]) dX4_search_31 (fun H1 locs1 S => ?_)
      refine ab_aload_n X dX4_search_34 rfl (lv_at hl 1 rfl) ?_
      refine ab_getR X S hF fi_4_0 lf_X4_9 dX4_search_35 (fun x10 hF => ?_)
      refine ab_aload_n X dX4_search_38 rfl (lv_at hl 1 rfl) ?_
      refine ab_getR X S hF fi_4_11 lf_X4_57 dX4_search_39 (fun x11 hF => ?_)
      refine lv_dload X.1 X.2.1 dX4_search_42 (lv_at hl 0 rfl) ?_
      obtain ⟨a15, e16, hF⟩ := bind_out hF
      obtain ⟨x12, h13, e14, hF⟩ := bnd_out hF
      refine ab_callVd X S e16 (c_X6_timeAt l D cA sz e14) rfl (by decide) mi_X6_timeAt lm_X4_105 li_yX6_timeAt ls_yX6_timeAt (As := [.double x3]) (rest := [va_rf x10]) rfl ⟨by decide, by decide⟩ ⟨(by decide), (by decide)⟩ hl.1 rfl (by simp [ab_cat, ab_cI, ab_cJ, ab_cD, ab_cF]) dX4_search_44 (fun H1 locs1 S => ?_)
      refine ab_aload_n X dX4_search_47 rfl (lv_at hl 1 rfl) ?_
      refine ab_getR X S hF fi_4_11 lf_X4_57 dX4_search_48 (fun x17 hF => ?_)
      refine ab_getR X S hF fi_6_7 lf_X4_153 dX4_search_51 (fun x18 hF => ?_)
      refine lv_iload_n X.1 X.2.1 dX4_search_54 rfl (lv_at hl 2 rfl) ?_
      refine lv_iconst (v := 1) X.1 X.2.1 dX4_search_55 (by decide) ?_
      refine lv_iadd X.1 X.2.1 dX4_search_56 ?_
      obtain ⟨a22, e23, hF⟩ := bind_out hF
      obtain ⟨x19, h20, e21, hF⟩ := bnd_out hF
      refine ab_callVv X S e23 (c_X1_reckonNodes l D cA sz e21) rfl (by decide) mi_X1_reckonNodes lm_X4_129 li_yX1_reckonNodes ls_yX1_reckonNodes (As := [.double x12, va_rf x18, .int (v1 + 1)]) (rest := []) rfl ⟨by decide, by decide⟩ ⟨(by decide), (by decide)⟩ hl.1 rfl (by simp [ab_cat, ab_cI, ab_cJ, ab_cD, ab_cF]) dX4_search_57 (fun H1 locs1 S => ?_)
      refine ab_aload_n X dX4_search_60 rfl (lv_at hl 1 rfl) ?_
      refine ab_getR X S hF fi_4_0 lf_X4_9 dX4_search_61 (fun x24 hF => ?_)
      refine lv_iload_n X.1 X.2.1 dX4_search_64 rfl (lv_at hl 2 rfl) ?_
      obtain ⟨a28, e29, hF⟩ := bind_out hF
      obtain ⟨x25, h26, e27, hF⟩ := bnd_out hF
      refine ab_callVi X S e29 (c_X1_signOf l D cA sz e27) rfl (by decide) mi_X1_signOf lm_X4_135 li_yX1_signOf ls_yX1_signOf (As := [.int v1]) (rest := []) rfl ⟨by decide, by decide⟩ ⟨(by decide), (by decide)⟩ hl.1 rfl (by simp [ab_cat, ab_cI, ab_cJ, ab_cD, ab_cF]) dX4_search_65 (fun H1 locs1 S => ?_)
      refine lv_istore (lv' := [(10, .int x25), (8, .double x3), (0, va_rf v0), (1, .int v1), (2, .int v2), (3, .double v3), (5, .double v5), (7, .int v7)]) X.1 X.2.1 dX4_search_68 hl (by decide) (by simp [ab_cat, ab_cI, ab_cJ, ab_cD, ab_cF]) (fun ls hl => ?_)
      refine lv_iload X.1 X.2.1 dX4_search_70 (lv_at hl 0 rfl) ?_
      refine lv_if_eq (tgt := 81) X.1 X.2.1 dX4_search_72 (by decide) (fun c30 => ?_) (fun c30 => ?_)
      · have hF := ab_pos c30 hF
        exact w_X4_search_81 X hr ih S (lv_sub hl [2, 3, 4, 5, 7, 1] rfl) hF
      · have hF := ab_neg c30 hF
        refine lv_iload X.1 X.2.1 dX4_search_75 (lv_at hl 0 rfl) ?_
        refine lv_iload_n X.1 X.2.1 dX4_search_77 rfl (lv_at hl 4 rfl) ?_
        refine lv_icmp_ne (tgt := 88) X.1 X.2.1 dX4_search_78 (by decide) (fun c31 => ?_) (fun c31 => ?_)
        · have hF := ab_pos c31 hF
          refine lv_dload X.1 X.2.1 dX4_search_88 (lv_at hl 1 rfl) ?_
          refine lv_dstore_n (i := 3) (lv' := [(3, .double x3), (10, .int x25), (8, .double x3), (0, va_rf v0), (1, .int v1), (2, .int v2), (5, .double v5), (7, .int v7)]) X.1 X.2.1 dX4_search_90 rfl hl (by decide) (by simp [ab_cat, ab_cI, ab_cJ, ab_cD, ab_cF]) (fun ls hl => ?_)
          exact w_X4_search_91 X hr ih S (lv_sub hl [3, 4, 5, 0, 6, 7] rfl) hF
        · have hF := ab_neg (fun q => q c31) hF
          exact w_X4_search_81 X hr ih S (lv_sub hl [2, 3, 4, 5, 7, 1] rfl) hF
def f_X4_search (this : Nat) (p0 : Int32) (p1 : Int32) (h : Hp) : Option (UInt64 × Hp) :=
  f_X4_search_8 fuelN (some this) p0 p1 FP.dconst0 FP.dconst1 0 h
theorem mi_X4_search : ab_MI yX4_search cX4_search 11 (some .double) 2 := ⟨lc_yX4_search, lz_RX4, by decide, by decide, by decide +kernel⟩
set_option maxHeartbeats 4000000 in
set_option maxRecDepth 100000 in
theorem c_X4_search (l : Launch) (D : va_G) (cA : Nat → ClassId) (sz : Nat) {this : Nat} {p0 : Int32} {p1 : Int32} {h hh : Hp} {rr : UInt64} (hF : f_X4_search this p0 p1 h = some (rr, hh)) : ab_C l D cA sz yX4_search cX4_search 11 (some .double) 3 0 0 [.ref this, .int p0, .int p1] h (some (.double rr)) hh := by
  refine Met.ofW (cc := cX4_search) (maxL := 11) (ret := (some .double)) (by decide) rfl ?_
  intro p e s m args below meth c s₁ B hml hv
  obtain ⟨rfl, hT, hR⟩ := hv
  have X : ab_X p s m _ meth c cX4_search 11 RX4 D cA sz := (ab_enter B hml hT hR).1
  have S := (ab_enter B hml hT hR).2
  have hr := B.returns
  obtain ⟨ls, hls, hl⟩ := ab_entry m [.ref this, .int p0, .int p1] 11 (lv := [(0, .ref this), (1, .int p0), (2, .int p1)]) (by simp [lg_sl, ab_cat, ab_cI, ab_cJ, ab_cD, ab_cF, ab_cA]) (by simp [lv_args, ab_cat, ab_cI, ab_cJ, ab_cD, ab_cF, ab_cA])
  rw [hls]
  have hl : lv_has ls 11 [(0, va_rf (some this)), (1, .int p0), (2, .int p1)] := hl
  unfold f_X4_search at hF
  show W p l e (ab_rm 3 0 0) s m _ below meth c s.heap [] 0 0 _ _
  refine lv_dconst0 X.1 X.2.1 dX4_search_0 ?_
  refine lv_dstore_n (i := 3) (lv' := [(3, .double FP.dconst0), (0, va_rf (some this)), (1, .int p0), (2, .int p1)]) X.1 X.2.1 dX4_search_1 rfl hl (by decide) (by simp [ab_cat, ab_cI, ab_cJ, ab_cD, ab_cF]) (fun ls hl => ?_)
  refine lv_dconst1 X.1 X.2.1 dX4_search_2 ?_
  refine lv_dstore (lv' := [(5, .double FP.dconst1), (3, .double FP.dconst0), (0, va_rf (some this)), (1, .int p0), (2, .int p1)]) X.1 X.2.1 dX4_search_3 hl (by decide) (by simp [ab_cat, ab_cI, ab_cJ, ab_cD, ab_cF]) (fun ls hl => ?_)
  refine lv_iconst (v := 0) X.1 X.2.1 dX4_search_5 (by decide) ?_
  refine lv_istore (lv' := [(7, .int 0), (5, .double FP.dconst1), (3, .double FP.dconst0), (0, va_rf (some this)), (1, .int p0), (2, .int p1)]) X.1 X.2.1 dX4_search_6 hl (by decide) (by simp [ab_cat, ab_cI, ab_cJ, ab_cD, ab_cF]) (fun ls hl => ?_)
  exact w_X4_search_8 X hr  fuelN _ _ _ _ _ _ _ _ _ _ S (lv_sub hl [3, 4, 5, 2, 1, 0] rfl) hF
def f_X6_slope (this : Nat) (p0 : Int32) (p1 : UInt64) (p2 : Option Nat) (h : Hp) : Option (Int32 × Hp) :=
  (getR h (some this) 6 1).bind fun x1 =>
  (getR h (some this) 6 1).bind fun x2 =>
  (getI h x2 1 12).bind fun x3 =>
  (ab_ck h x1 (1, 0)).bind fun a7 =>
  bnd (f_X1_reckonNodes a7 p1 p2 x3 h) fun _ h5 =>
  (getR h5 (some this) 6 1).bind fun x9 =>
  (getR h5 (some this) 6 9).bind fun x10 =>
  (aldR h5 x10 14 p0).bind fun x11 =>
  (ab_ck h5 x9 (1, 0)).bind fun a15 =>
  bnd (f_X1_readSides a15 x11 h5) fun _ h13 =>
  (getR h13 (some this) 6 9).bind fun x17 =>
  (aldR h13 x17 14 p0).bind fun x18 =>
  (getR h13 (some this) 6 1).bind fun x19 =>
  (getI h13 x19 1 1).bind fun x20 =>
  (ab_ck h13 x18 (3, 0)).bind fun a24 =>
  bnd (f_X3_isFinite a24 x20 h13) fun x21 h22 =>
  if x21 = 0 ∨ x21 = 1 then some (x21, h22) else none
theorem mi_X6_slope : ab_MI yX6_slope cX6_slope 5 (some .boolean) 3 := ⟨lc_yX6_slope, lz_RX6, by decide, by decide, by decide +kernel⟩
set_option maxHeartbeats 4000000 in
set_option maxRecDepth 100000 in
theorem c_X6_slope (l : Launch) (D : va_G) (cA : Nat → ClassId) (sz : Nat) {this : Nat} {p0 : Int32} {p1 : UInt64} {p2 : Option Nat} {h hh : Hp} {rr : Int32} (hF : f_X6_slope this p0 p1 p2 h = some (rr, hh)) : ab_C l D cA sz yX6_slope cX6_slope 5 (some .boolean) 3 0 0 [.ref this, .int p0, .double p1, va_rf p2] h (some (.int rr)) hh := by
  refine Met.ofW (cc := cX6_slope) (maxL := 5) (ret := (some .boolean)) (by decide) rfl ?_
  intro p e s m args below meth c s₁ B hml hv
  obtain ⟨rfl, hT, hR⟩ := hv
  have X : ab_X p s m _ meth c cX6_slope 5 RX6 D cA sz := (ab_enter B hml hT hR).1
  have S := (ab_enter B hml hT hR).2
  have hr := B.returns
  obtain ⟨ls, hls, hl⟩ := ab_entry m [.ref this, .int p0, .double p1, va_rf p2] 5 (lv := [(0, .ref this), (1, .int p0), (2, .double p1), (4, va_rf p2)]) (by simp [lg_sl, ab_cat, ab_cI, ab_cJ, ab_cD, ab_cF, ab_cA]) (by simp [lv_args, ab_cat, ab_cI, ab_cJ, ab_cD, ab_cF, ab_cA])
  rw [hls]
  have hl : lv_has ls 5 [(0, va_rf (some this)), (1, .int p0), (2, .double p1), (4, va_rf p2)] := hl
  unfold f_X6_slope at hF
  show W p l e (ab_rm 3 0 0) s m _ below meth c s.heap [] 0 0 _ _
  refine ab_aload_n X dX6_slope_0 rfl (lv_at hl 0 rfl) ?_
  refine ab_getR X S hF fi_6_1 lf_X6_40 dX6_slope_1 (fun x1 hF => ?_)
  refine lv_dload_n X.1 X.2.1 dX6_slope_4 rfl (lv_at hl 2 rfl) ?_
  refine ab_aload X dX6_slope_5 (lv_at hl 3 rfl) ?_
  refine ab_aload_n X dX6_slope_7 rfl (lv_at hl 0 rfl) ?_
  refine ab_getR X S hF fi_6_1 lf_X6_40 dX6_slope_8 (fun x2 hF => ?_)
  refine ab_getI X S hF fi_1_12 lf_X6_109 dX6_slope_11 (fun x3 hF => ?_)
  obtain ⟨a7, e8, hF⟩ := bind_out hF
  obtain ⟨x4, h5, e6, hF⟩ := bnd_out hF
  refine ab_callVv X S e8 (c_X1_reckonNodes l D cA sz e6) rfl (by decide) mi_X1_reckonNodes lm_X6_112 li_yX1_reckonNodes ls_yX1_reckonNodes (As := [.double p1, va_rf p2, .int x3]) (rest := []) rfl ⟨by decide, by decide⟩ ⟨(by decide), (by decide)⟩ hl.1 rfl (by simp [ab_cat, ab_cI, ab_cJ, ab_cD, ab_cF]) dX6_slope_14 (fun H1 locs1 S => ?_)
  refine ab_aload_n X dX6_slope_17 rfl (lv_at hl 0 rfl) ?_
  refine ab_getR X S hF fi_6_1 lf_X6_40 dX6_slope_18 (fun x9 hF => ?_)
  refine ab_aload_n X dX6_slope_21 rfl (lv_at hl 0 rfl) ?_
  refine ab_getR X S hF fi_6_9 lf_X6_30 dX6_slope_22 (fun x10 hF => ?_)
  refine lv_iload_n X.1 X.2.1 dX6_slope_25 rfl (lv_at hl 1 rfl) ?_
  refine ab_aldR X S hF rfl (by decide) dX6_slope_26 (fun x11 hF => ?_)
  obtain ⟨a15, e16, hF⟩ := bind_out hF
  obtain ⟨x12, h13, e14, hF⟩ := bnd_out hF
  refine ab_callVv X S e16 (c_X1_readSides l D cA sz e14) rfl (by decide) mi_X1_readSides lm_X6_116 li_yX1_readSides ls_yX1_readSides (As := [va_rf x11]) (rest := []) rfl ⟨by decide, by decide⟩ ⟨(by decide), (by decide)⟩ hl.1 rfl (by simp [ab_cat, ab_cI, ab_cJ, ab_cD, ab_cF]) dX6_slope_27 (fun H1 locs1 S => ?_)
  refine ab_aload_n X dX6_slope_30 rfl (lv_at hl 0 rfl) ?_
  refine ab_getR X S hF fi_6_9 lf_X6_30 dX6_slope_31 (fun x17 hF => ?_)
  refine lv_iload_n X.1 X.2.1 dX6_slope_34 rfl (lv_at hl 1 rfl) ?_
  refine ab_aldR X S hF rfl (by decide) dX6_slope_35 (fun x18 hF => ?_)
  refine ab_aload_n X dX6_slope_36 rfl (lv_at hl 0 rfl) ?_
  refine ab_getR X S hF fi_6_1 lf_X6_40 dX6_slope_37 (fun x19 hF => ?_)
  refine ab_getI X S hF fi_1_1 lf_X6_95 dX6_slope_40 (fun x20 hF => ?_)
  obtain ⟨a24, e25, hF⟩ := bind_out hF
  obtain ⟨x21, h22, e23, hF⟩ := bnd_out hF
  refine ab_callVi X S e25 (c_X3_isFinite l D cA sz e23) rfl (by decide) mi_X3_isFinite lm_X6_100 li_yX3_isFinite ls_yX3_isFinite (As := [.int x20]) (rest := []) rfl ⟨by decide, by decide⟩ ⟨(by decide), (by decide)⟩ hl.1 rfl (by simp [ab_cat, ab_cI, ab_cJ, ab_cD, ab_cF]) dX6_slope_43 (fun H1 locs1 S => ?_)
  exact ab_zret X S hr hF dX6_slope_46
def f_X6_middle (this : Nat) (h : Hp) : Option (Int32 × Hp) :=
  (getD h (some this) 6 4).bind fun x1 =>
  (fop (FP.ddiv x1 4611686018427387904)).bind fun x2 =>
  (getR h (some this) 6 7).bind fun x3 =>
  (ab_ck h (some this) (6, 0)).bind fun a7 =>
  bnd (f_X6_move a7 x3 x2 0 h) fun _ h5 =>
  (getD h5 (some this) 6 3).bind fun x9 =>
  (fop (FP.dadd x9 x2)).bind fun x10 =>
  (getR h5 (some this) 6 7).bind fun x11 =>
  (ab_ck h5 (some this) (6, 0)).bind fun a15 =>
  bnd (f_X6_slope a15 1 x10 x11 h5) fun x12 h13 =>
  if ¬ x12 = 0 then
    (getR h13 (some this) 6 8).bind fun x18 =>
    (getD h13 (some this) 6 4).bind fun x19 =>
    (ab_ck h13 (some this) (6, 0)).bind fun a23 =>
    bnd (f_X6_move a23 x18 x19 1 h13) fun _ h21 =>
    if 1 = 0 ∨ 1 = 1 then some (1, h21) else none
  else
    if 0 = 0 ∨ 0 = 1 then some (0, h13) else none
theorem mi_X6_middle : ab_MI yX6_middle cX6_middle 3 (some .boolean) 0 := ⟨lc_yX6_middle, lz_RX6, by decide, by decide, by decide +kernel⟩
set_option maxHeartbeats 4000000 in
set_option maxRecDepth 100000 in
theorem c_X6_middle (l : Launch) (D : va_G) (cA : Nat → ClassId) (sz : Nat) {this : Nat} {h hh : Hp} {rr : Int32} (hF : f_X6_middle this h = some (rr, hh)) : ab_C l D cA sz yX6_middle cX6_middle 3 (some .boolean) 4 0 0 [.ref this] h (some (.int rr)) hh := by
  refine Met.ofW (cc := cX6_middle) (maxL := 3) (ret := (some .boolean)) (by decide) rfl ?_
  intro p e s m args below meth c s₁ B hml hv
  obtain ⟨rfl, hT, hR⟩ := hv
  have X : ab_X p s m _ meth c cX6_middle 3 RX6 D cA sz := (ab_enter B hml hT hR).1
  have S := (ab_enter B hml hT hR).2
  have hr := B.returns
  obtain ⟨ls, hls, hl⟩ := ab_entry m [.ref this] 3 (lv := [(0, .ref this)]) (by simp [lg_sl, ab_cat, ab_cI, ab_cJ, ab_cD, ab_cF, ab_cA]) (by simp [lv_args, ab_cat, ab_cI, ab_cJ, ab_cD, ab_cF, ab_cA])
  rw [hls]
  have hl : lv_has ls 3 [(0, va_rf (some this))] := hl
  unfold f_X6_middle at hF
  show W p l e (ab_rm 4 0 0) s m _ below meth c s.heap [] 0 0 _ _
  refine ab_aload_n X dX6_middle_0 rfl (lv_at hl 0 rfl) ?_
  refine ab_getD X S hF fi_6_4 lf_X6_52 dX6_middle_1 (fun x1 hF => ?_)
  refine lv_ldc2d (v := 4611686018427387904) X.1 X.2.1 X.2.2.2.1 (X.2.2.2.2.1 _ ld_X6_152) dX6_middle_4 ?_
  obtain ⟨x2, ev, ne, hF⟩ := ab_fopx hF
  refine lv_ddiv X.1 X.2.1 dX6_middle_7 ne ?_
  rw [ev]
  refine lv_dstore_n (i := 1) (lv' := [(1, .double x2), (0, va_rf (some this))]) X.1 X.2.1 dX6_middle_8 rfl hl (by decide) (by simp [ab_cat, ab_cI, ab_cJ, ab_cD, ab_cF]) (fun ls hl => ?_)
  refine ab_aload_n X dX6_middle_9 rfl (lv_at hl 1 rfl) ?_
  refine ab_aload_n X dX6_middle_10 rfl (lv_at hl 1 rfl) ?_
  refine ab_getR X S hF fi_6_7 lf_X6_24 dX6_middle_11 (fun x3 hF => ?_)
  refine lv_dload_n X.1 X.2.1 dX6_middle_14 rfl (lv_at hl 0 rfl) ?_
  refine lv_iconst (v := 0) X.1 X.2.1 dX6_middle_15 (by decide) ?_
  obtain ⟨a7, e8, hF⟩ := bind_out hF
  obtain ⟨x4, h5, e6, hF⟩ := bnd_out hF
  refine ab_callVv X S e8 (c_X6_move l D cA sz e6) rfl (by decide) mi_X6_move lm_X6_72 li_yX6_move ls_yX6_move (As := [va_rf x3, .double x2, .int 0]) (rest := []) rfl ⟨by decide, by decide⟩ ⟨(by decide), (by decide)⟩ hl.1 rfl (by simp [ab_cat, ab_cI, ab_cJ, ab_cD, ab_cF]) dX6_middle_16 (fun H1 locs1 S => ?_)
  refine ab_aload_n X dX6_middle_19 rfl (lv_at hl 1 rfl) ?_
  refine lv_iconst (v := 1) X.1 X.2.1 dX6_middle_20 (by decide) ?_
  refine ab_aload_n X dX6_middle_21 rfl (lv_at hl 1 rfl) ?_
  refine ab_getD X S hF fi_6_3 lf_X6_48 dX6_middle_22 (fun x9 hF => ?_)
  refine lv_dload_n X.1 X.2.1 dX6_middle_25 rfl (lv_at hl 0 rfl) ?_
  obtain ⟨x10, ev, ne, hF⟩ := ab_fopx hF
  refine lv_dadd X.1 X.2.1 dX6_middle_26 ne ?_
  rw [ev]
  refine ab_aload_n X dX6_middle_27 rfl (lv_at hl 1 rfl) ?_
  refine ab_getR X S hF fi_6_7 lf_X6_24 dX6_middle_28 (fun x11 hF => ?_)
  obtain ⟨a15, e16, hF⟩ := bind_out hF
  obtain ⟨x12, h13, e14, hF⟩ := bnd_out hF
  refine ab_callVi X S e16 (c_X6_slope l D cA sz e14) rfl (by decide) mi_X6_slope lm_X6_68 li_yX6_slope ls_yX6_slope (As := [.int 1, .double x10, va_rf x11]) (rest := []) rfl ⟨by decide, by decide⟩ ⟨(by decide), (by decide)⟩ hl.1 rfl (by simp [ab_cat, ab_cI, ab_cJ, ab_cD, ab_cF]) dX6_middle_31 (fun H1 locs1 S => ?_)
  refine lv_if_ne (tgt := 39) X.1 X.2.1 dX6_middle_34 (by decide) (fun c17 => ?_) (fun c17 => ?_)
  · have hF := ab_pos c17 hF
    refine ab_aload_n X dX6_middle_39 rfl (lv_at hl 1 rfl) ?_
    refine ab_aload_n X dX6_middle_40 rfl (lv_at hl 1 rfl) ?_
    refine ab_getR X S hF fi_6_8 lf_X6_27 dX6_middle_41 (fun x18 hF => ?_)
    refine ab_aload_n X dX6_middle_44 rfl (lv_at hl 1 rfl) ?_
    refine ab_getD X S hF fi_6_4 lf_X6_52 dX6_middle_45 (fun x19 hF => ?_)
    refine lv_iconst (v := 1) X.1 X.2.1 dX6_middle_48 (by decide) ?_
    obtain ⟨a23, e24, hF⟩ := bind_out hF
    obtain ⟨x20, h21, e22, hF⟩ := bnd_out hF
    refine ab_callVv X S e24 (c_X6_move l D cA sz e22) rfl (by decide) mi_X6_move lm_X6_72 li_yX6_move ls_yX6_move (As := [va_rf x18, .double x19, .int 1]) (rest := []) rfl ⟨by decide, by decide⟩ ⟨(by decide), (by decide)⟩ hl.1 rfl (by simp [ab_cat, ab_cI, ab_cJ, ab_cD, ab_cF]) dX6_middle_49 (fun H1 locs1 S => ?_)
    refine lv_iconst (v := 1) X.1 X.2.1 dX6_middle_52 (by decide) ?_
    exact ab_zret X S hr hF dX6_middle_53
  · have hF := ab_neg (fun q => q c17) hF
    refine lv_iconst (v := 0) X.1 X.2.1 dX6_middle_37 (by decide) ?_
    exact ab_zret X S hr hF dX6_middle_38
