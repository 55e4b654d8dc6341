def f_X9_pair_378 (k_269 : Option Nat → Int32 → UInt64 → Int32 → Hp → Option (Unit × Hp)) (v0 : Option Nat) (v2 : Int32) (v5 : UInt64) (v11 : Int32) (u0 : Int32) (u1 : Option Nat) (h : Hp) : Option (Unit × Hp) :=
  (putZ h u1 9 60 u0).bind fun h1 =>
  k_269 v0 v2 v5 (v11 + 1) h1
set_option maxHeartbeats 4000000 in
set_option maxRecDepth 100000 in
theorem w_X9_pair_378 {p : Program} {l : Launch} {e : Env} {s : State} {m : MethodId} {args : Array Value} {below : List Frame} {meth : Method} {c : Code} {D : va_G} {cA : Nat → ClassId} {sz : Nat}  {hh : Hp} {k_269 : Option Nat → Int32 → UInt64 → Int32 → Hp → Option (Unit × Hp)} (X : ab_X p s m args meth c cX9_pair 12 RX9 D cA sz) (hr : meth.sig.returnType = none) (hk_269 : ∀ (v0 : Option Nat) (v2 : Int32) (v5 : UInt64) (v11 : Int32) (h : Hp) (H : Heap) (locs : List Loc) (ls : Array Slot), ab_H D cA sz h s H locs → lv_has ls 12 [(0, va_rf v0), (2, .int v2), (5, .double v5), (11, .int v11)] → k_269 v0 v2 v5 v11 h = some ((), hh) → W p l e (ab_rm 6 0 0) s m args below meth c H locs 0 0 (MQ below (ab_Q D cA sz none hh) args s 0 0 (fun q => sz ≤ q)) (F0 m 269 ls [])) {H : Heap} {locs : List Loc} {ls : Array Slot} {v0 : Option Nat} {v2 : Int32} {v5 : UInt64} {v11 : Int32} {u0 : Int32} {u1 : Option Nat} {h : Hp} (S : ab_H D cA sz h s H locs) (hl : lv_has ls 12 [(0, va_rf v0), (2, .int v2), (5, .double v5), (11, .int v11)]) (hF : f_X9_pair_378 k_269 v0 v2 v5 v11 u0 u1 h = some ((), hh)) : W p l e (ab_rm 6 0 0) s m args below meth c H locs 0 0 (MQ below (ab_Q D cA sz none hh) args s 0 0 (fun q => sz ≤ q)) (F0 m 378 ls [.int u0, va_rf u1]) := by
  unfold f_X9_pair_378 at hF
  refine ab_putZ X S hF fi_9_60 ci_9 (Or.inl rfl) rfl lf_X9_246 dX9_pair_378 (fun h1 H1 locs1 hF S => ?_)
  refine lv_iinc (v := v11 + 1) (lv' := [(11, .int (v11 + 1)), (0, va_rf v0), (2, .int v2), (5, .double v5)]) X.1 X.2.1 dX9_pair_381 hl (k := 3) rfl (by rfl) (by decide) (by simp [ab_cat, ab_cI, ab_cJ, ab_cD, ab_cF]) (fun ls hl => ?_)
  refine lv_goto (tgt := 269) X.1 X.2.1 dX9_pair_384 (by decide) ?_
  exact hk_269 _ _ _ _ _ _ _ _ S (lv_sub hl [1, 2, 3, 0] rfl) hF
def f_X9_pair_373 (k_269 : Option Nat → Int32 → UInt64 → Int32 → Hp → Option (Unit × Hp)) (v0 : Option Nat) (v2 : Int32) (v5 : UInt64) (v11 : Int32) (u0 : Option Nat) (h : Hp) : Option (Unit × Hp) :=
  f_X9_pair_378 k_269 v0 v2 v5 v11 1 u0 h
set_option maxHeartbeats 4000000 in
set_option maxRecDepth 100000 in
theorem w_X9_pair_373 {p : Program} {l : Launch} {e : Env} {s : State} {m : MethodId} {args : Array Value} {below : List Frame} {meth : Method} {c : Code} {D : va_G} {cA : Nat → ClassId} {sz : Nat}  {hh : Hp} {k_269 : Option Nat → Int32 → UInt64 → Int32 → Hp → Option (Unit × Hp)} (X : ab_X p s m args meth c cX9_pair 12 RX9 D cA sz) (hr : meth.sig.returnType = none) (hk_269 : ∀ (v0 : Option Nat) (v2 : Int32) (v5 : UInt64) (v11 : Int32) (h : Hp) (H : Heap) (locs : List Loc) (ls : Array Slot), ab_H D cA sz h s H locs → lv_has ls 12 [(0, va_rf v0), (2, .int v2), (5, .double v5), (11, .int v11)] → k_269 v0 v2 v5 v11 h = some ((), hh) → W p l e (ab_rm 6 0 0) s m args below meth c H locs 0 0 (MQ below (ab_Q D cA sz none hh) args s 0 0 (fun q => sz ≤ q)) (F0 m 269 ls [])) {H : Heap} {locs : List Loc} {ls : Array Slot} {v0 : Option Nat} {v2 : Int32} {v5 : UInt64} {v11 : Int32} {u0 : Option Nat} {h : Hp} (S : ab_H D cA sz h s H locs) (hl : lv_has ls 12 [(0, va_rf v0), (2, .int v2), (5, .double v5), (11, .int v11)]) (hF : f_X9_pair_373 k_269 v0 v2 v5 v11 u0 h = some ((), hh)) : W p l e (ab_rm 6 0 0) s m args below meth c H locs 0 0 (MQ below (ab_Q D cA sz none hh) args s 0 0 (fun q => sz ≤ q)) (F0 m 373 ls [va_rf u0]) := by
  unfold f_X9_pair_373 at hF
  refine lv_iconst (v := 1) X.1 X.2.1 dX9_pair_373 (by decide) ?_
  refine lv_goto (tgt := 378) X.1 X.2.1 dX9_pair_374 (by decide) ?_
  exact w_X9_pair_378 X hr hk_269 S (lv_sub hl [0, 1, 2, 3] rfl) hF
def f_X9_pair_269  : Nat → Option Nat → Int32 → UInt64 → Int32 → Hp → Option (Unit × Hp)
  | 0, _, _, _, _, _ => none
  | n + 1, v0, v2, v5, v11, h => if v2 ≤ v11 then
      some ((), h)
    else
      (getR h v0 9 51).bind fun x2 =>
      (fop (FP.ddiv v5 4634766966517661696)).bind fun x3 =>
      (getR h v0 9 53).bind fun x4 =>
      (aldD h x4 v11).bind fun x5 =>
      bnd (f_X9_times 4618441417868443648 x5 h) fun x6 h7 =>
      (getR h7 v0 9 54).bind fun x9 =>
      (aldD h7 x9 v11).bind fun x10 =>
      bnd (f_X9_times 4620693217682128896 x10 h7) fun x11 h12 =>
      bnd (f_X9_plus x6 x11 h12) fun x14 h15 =>
      (getR h15 v0 9 52).bind fun x17 =>
      (aldD h15 x17 v11).bind fun x18 =>
      bnd (f_X9_times 4617315517961601024 x18 h15) fun x19 h20 =>
      bnd (f_X9_less x14 x19 h20) fun x22 h23 =>
      (getR h23 v0 9 55).bind fun x25 =>
      (aldD h23 x25 v11).bind fun x26 =>
      bnd (f_X9_times 4621256167635550208 x26 h23) fun x27 h28 =>
      bnd (f_X9_less x22 x27 h28) fun x30 h31 =>
      bnd (f_X9_times x3 x30 h31) fun x33 h34 =>
      (astD h34 x2 v11 x33).bind fun h36 =>
      (getI h36 v0 9 60).bind fun x37 =>
      if ¬ x37 = 0 then
        f_X9_pair_373 (f_X9_pair_269 n) v0 v2 v5 v11 v0 h36
      else
        (getR h36 v0 9 51).bind fun x39 =>
        (aldD h36 x39 v11).bind fun x40 =>
        bnd (f_X9_isFinite x40 h36) fun x41 h42 =>
        if ¬ x41 = 0 then
          f_X9_pair_378 (f_X9_pair_269 n) v0 v2 v5 v11 0 v0 h42
        else
          f_X9_pair_373 (f_X9_pair_269 n) v0 v2 v5 v11 v0 h42
set_option maxHeartbeats 4000000 in
set_option maxRecDepth 100000 in
theorem w_X9_pair_269 {p : Program} {l : Launch} {e : Env} {s : State} {m : MethodId} {args : Array Value} {below : List Frame} {meth : Method} {c : Code} {D : va_G} {cA : Nat → ClassId} {sz : Nat}  {hh : Hp}  (X : ab_X p s m args meth c cX9_pair 12 RX9 D cA sz) (hr : meth.sig.returnType = none)  (n : Nat) : ∀ (v0 : Option Nat) (v2 : Int32) (v5 : UInt64) (v11 : Int32) (h : Hp) (H : Heap) (locs : List Loc) (ls : Array Slot), ab_H D cA sz h s H locs → lv_has ls 12 [(0, va_rf v0), (2, .int v2), (5, .double v5), (11, .int v11)] → f_X9_pair_269 n v0 v2 v5 v11 h = some ((), hh) → W p l e (ab_rm 6 0 0) s m args below meth c H locs 0 0 (MQ below (ab_Q D cA sz none hh) args s 0 0 (fun q => sz ≤ q)) (F0 m 269 ls []) := by
  induction n with
  | zero => intro v0 v2 v5 v11 h H locs ls S hl hF; cases hF
  | succ n ih =>
    intro v0 v2 v5 v11 h H locs ls S hl hF
    rw [f_X9_pair_269] at hF
    refine lv_iload X.1 X.2.1 dX9_pair_269 (lv_at hl 3 rfl) ?_
    refine lv_iload_n X.1 X.2.1 dX9_pair_271 rfl (lv_at hl 1 rfl) ?_
    refine lv_icmp_ge (tgt := 387) X.1 X.2.1 dX9_pair_272 (by decide) (fun c1 => ?_) (fun c1 => ?_)
    · have hF := ab_pos c1 hF
      exact ab_vret X S hr hF dX9_pair_387
    · have hF := ab_neg c1 hF
      refine ab_aload_n X dX9_pair_275 rfl (lv_at hl 0 rfl) ?_
      refine ab_getR X S hF fi_9_51 lf_X9_158 dX9_pair_276 (fun x2 hF => ?_)
      refine lv_iload X.1 X.2.1 dX9_pair_279 (lv_at hl 3 rfl) ?_
      refine lv_dload X.1 X.2.1 dX9_pair_281 (lv_at hl 2 rfl) ?_
      refine lv_ldc2d (v := 4634766966517661696) X.1 X.2.1 X.2.2.2.1 (X.2.2.2.2.1 _ ld_X9_295) dX9_pair_283 ?_
      obtain ⟨x3, ev, ne, hF⟩ := ab_fopx hF
      refine lv_ddiv X.1 X.2.1 dX9_pair_286 ne ?_
      rw [ev]
      refine lv_ldc2d (v := 4618441417868443648) X.1 X.2.1 X.2.2.2.1 (X.2.2.2.2.1 _ ld_X9_287) dX9_pair_287 ?_
      refine ab_aload_n X dX9_pair_290 rfl (lv_at hl 0 rfl) ?_
      refine ab_getR X S hF fi_9_53 lf_X9_164 dX9_pair_291 (fun x4 hF => ?_)
      refine lv_iload X.1 X.2.1 dX9_pair_294 (lv_at hl 3 rfl) ?_
      refine ab_aldD X S hF dX9_pair_296 (fun x5 hF => ?_)
      obtain ⟨x6, h7, e8, hF⟩ := bnd_out hF
      refine ab_callSd X S (c_X9_times l D cA sz e8) mi_X9_times lm_X9_211 lt_yX9_times (As := [.double 4618441417868443648, .double x5]) (rest := [.double x3, .int v11, va_rf x2]) rfl ⟨by decide, by decide⟩ ⟨(by decide), (by decide)⟩ hl.1 rfl (by simp [ab_cat, ab_cI, ab_cJ, ab_cD, ab_cF]) dX9_pair_297 (fun H1 locs1 S => ?_)
      refine lv_ldc2d (v := 4620693217682128896) X.1 X.2.1 X.2.2.2.1 (X.2.2.2.2.1 _ ld_X9_297) dX9_pair_300 ?_
      refine ab_aload_n X dX9_pair_303 rfl (lv_at hl 0 rfl) ?_
      refine ab_getR X S hF fi_9_54 lf_X9_167 dX9_pair_304 (fun x9 hF => ?_)
      refine lv_iload X.1 X.2.1 dX9_pair_307 (lv_at hl 3 rfl) ?_
      refine ab_aldD X S hF dX9_pair_309 (fun x10 hF => ?_)
      obtain ⟨x11, h12, e13, hF⟩ := bnd_out hF
      refine ab_callSd X S (c_X9_times l D cA sz e13) mi_X9_times lm_X9_211 lt_yX9_times (As := [.double 4620693217682128896, .double x10]) (rest := [.double x6, .double x3, .int v11, va_rf x2]) rfl ⟨by decide, by decide⟩ ⟨(by decide), (by decide)⟩ hl.1 rfl (by simp [ab_cat, ab_cI, ab_cJ, ab_cD, ab_cF]) dX9_pair_310 (fun H1 locs1 S => ?_)
      obtain ⟨x14, h15, e16, hF⟩ := bnd_out hF
      refine ab_callSd X S (c_X9_plus l D cA sz e16) mi_X9_plus lm_X9_214 lt_yX9_plus (As := [.double x6, .double x11]) (rest := [.double x3, .int v11, va_rf x2]) rfl ⟨by decide, by decide⟩ ⟨(by decide), (by decide)⟩ hl.1 rfl (by simp [ab_cat, ab_cI, ab_cJ, ab_cD, ab_cF]) dX9_pair_313 (fun H1 locs1 S => ?_)
      refine lv_ldc2d (v := 4617315517961601024) X.1 X.2.1 X.2.2.2.1 (X.2.2.2.2.1 _ ld_X9_299) dX9_pair_316 ?_
      refine ab_aload_n X dX9_pair_319 rfl (lv_at hl 0 rfl) ?_
      refine ab_getR X S hF fi_9_52 lf_X9_161 dX9_pair_320 (fun x17 hF => ?_)
      refine lv_iload X.1 X.2.1 dX9_pair_323 (lv_at hl 3 rfl) ?_
      refine ab_aldD X S hF dX9_pair_325 (fun x18 hF => ?_)
      obtain ⟨x19, h20, e21, hF⟩ := bnd_out hF
      refine ab_callSd X S (c_X9_times l D cA sz e21) mi_X9_times lm_X9_211 lt_yX9_times (As := [.double 4617315517961601024, .double x18]) (rest := [.double x14, .double x3, .int v11, va_rf x2]) rfl ⟨by decide, by decide⟩ ⟨(by decide), (by decide)⟩ hl.1 rfl (by simp [ab_cat, ab_cI, ab_cJ, ab_cD, ab_cF]) dX9_pair_326 (fun H1 locs1 S => ?_)
      obtain ⟨x22, h23, e24, hF⟩ := bnd_out hF
      refine ab_callSd X S (c_X9_less l D cA sz e24) mi_X9_less lm_X9_204 lt_yX9_less (As := [.double x14, .double x19]) (rest := [.double x3, .int v11, va_rf x2]) rfl ⟨by decide, by decide⟩ ⟨(by decide), (by decide)⟩ hl.1 rfl (by simp [ab_cat, ab_cI, ab_cJ, ab_cD, ab_cF]) dX9_pair_329 (fun H1 locs1 S => ?_)
      refine lv_ldc2d (v := 4621256167635550208) X.1 X.2.1 X.2.2.2.1 (X.2.2.2.2.1 _ ld_X9_293) dX9_pair_332 ?_
      refine ab_aload_n X dX9_pair_335 rfl (lv_at hl 0 rfl) ?_
      refine ab_getR X S hF fi_9_55 lf_X9_170 dX9_pair_336 (fun x25 hF => ?_)
      refine lv_iload X.1 X.2.1 dX9_pair_339 (lv_at hl 3 rfl) ?_
      refine ab_aldD X S hF dX9_pair_341 (fun x26 hF => ?_)
      obtain ⟨x27, h28, e29, hF⟩ := bnd_out hF
      refine ab_callSd X S (c_X9_times l D cA sz e29) mi_X9_times lm_X9_211 lt_yX9_times (As := [.double 4621256167635550208, .double x26]) (rest := [.double x22, .double x3, .int v11, va_rf x2]) rfl ⟨by decide, by decide⟩ ⟨(by decide), (by decide)⟩ hl.1 rfl (by simp [ab_cat, ab_cI, ab_cJ, ab_cD, ab_cF]) dX9_pair_342 (fun H1 locs1 S => ?_)
      obtain ⟨x30, h31, e32, hF⟩ := bnd_out hF
      refine ab_callSd X S (c_X9_less l D cA sz e32) mi_X9_less lm_X9_204 lt_yX9_less (As := [.double x22, .double x27]) (rest := [.double x3, .int v11, va_rf x2]) rfl ⟨by decide, by decide⟩ ⟨(by decide), (by decide)⟩ hl.1 rfl (by simp [ab_cat, ab_cI, ab_cJ, ab_cD, ab_cF]) dX9_pair_345 (fun H1 locs1 S => ?_)
      obtain ⟨x33, h34, e35, hF⟩ := bnd_out hF
      refine ab_callSd X S (c_X9_times l D cA sz e35) mi_X9_times lm_X9_211 lt_yX9_times (As := [.double x3, .double x30]) (rest := [.int v11, va_rf x2]) rfl ⟨by decide, by decide⟩ ⟨(by decide), (by decide)⟩ hl.1 rfl (by simp [ab_cat, ab_cI, ab_cJ, ab_cD, ab_cF]) dX9_pair_348 (fun H1 locs1 S => ?_)
      refine ab_astD X S hF dX9_pair_351 (fun h36 H1 locs1 hF S => ?_)
      refine ab_aload_n X dX9_pair_352 rfl (lv_at hl 0 rfl) ?_
      refine ab_aload_n X dX9_pair_353 rfl (lv_at hl 0 rfl) ?_
      refine ab_getI X S hF fi_9_60 lf_X9_246 dX9_pair_354 (fun x37 hF => ?_)
      refine lv_if_ne (tgt := 373) X.1 X.2.1 dX9_pair_357 (by decide) (fun c38 => ?_) (fun c38 => ?_)
      · have hF := ab_pos c38 hF
        exact w_X9_pair_373 X hr ih S (lv_sub hl [0, 1, 2, 3] rfl) hF
      · have hF := ab_neg (fun q => q c38) hF
        refine ab_aload_n X dX9_pair_360 rfl (lv_at hl 0 rfl) ?_
        refine ab_getR X S hF fi_9_51 lf_X9_158 dX9_pair_361 (fun x39 hF => ?_)
        refine lv_iload X.1 X.2.1 dX9_pair_364 (lv_at hl 3 rfl) ?_
        refine ab_aldD X S hF dX9_pair_366 (fun x40 hF => ?_)
        obtain ⟨x41, h42, e43, hF⟩ := bnd_out hF
        refine ab_callSi X S (c_X9_isFinite l D cA sz e43) mi_X9_isFinite lm_X9_193 lt_yX9_isFinite (As := [.double x40]) (rest := [va_rf v0]) rfl ⟨by decide, by decide⟩ ⟨(by decide), (by decide)⟩ hl.1 rfl (by simp [ab_cat, ab_cI, ab_cJ, ab_cD, ab_cF]) dX9_pair_367 (fun H1 locs1 S => ?_)
        refine lv_if_ne (tgt := 377) X.1 X.2.1 dX9_pair_370 (by decide) (fun c44 => ?_) (fun c44 => ?_)
        · have hF := ab_pos c44 hF
          refine lv_iconst (v := 0) X.1 X.2.1 dX9_pair_377 (by decide) ?_
          exact w_X9_pair_378 X hr ih S (lv_sub hl [0, 1, 2, 3] rfl) hF
        · have hF := ab_neg (fun q => q c44) hF
          exact w_X9_pair_373 X hr ih S (lv_sub hl [0, 1, 2, 3] rfl) hF
def f_X9_pair_159  : Nat → Option Nat → Int32 → Int32 → UInt64 → UInt64 → Int32 → Hp → Option (Unit × Hp)
  | 0, _, _, _, _, _, _, _ => none
  | n + 1, v0, v1, v2, v3, v5, v11, h => if v2 ≤ v11 then
      (fop (FP.dadd v3 v5)).bind fun x2 =>
      (getR h v0 9 49).bind fun x3 =>
      (getR h v0 9 55).bind fun x4 =>
      (ab_ck h v0 (9, 0)).bind fun a8 =>
      bnd (f_X9_rates a8 v1 x2 x3 x4 h) fun _ h6 =>
      f_X9_pair_269 fuelN v0 v2 v5 0 h6
    else
      (getR h v0 9 49).bind fun x10 =>
      (getR h v0 9 47).bind fun x11 =>
      (aldD h x11 v11).bind fun x12 =>
      (fop (FP.ddiv v5 4621256167635550208)).bind fun x13 =>
      (getR h v0 9 52).bind fun x14 =>
      (aldD h x14 v11).bind fun x15 =>
      bnd (f_X9_times 4611686018427387904 x15 h) fun x16 h17 =>
      (getR h17 v0 9 53).bind fun x19 =>
      (aldD h17 x19 v11).bind fun x20 =>
      bnd (f_X9_times 4613937818241073152 x20 h17) fun x21 h22 =>
      bnd (f_X9_plus x16 x21 h22) fun x24 h25 =>
      (getR h25 v0 9 54).bind fun x27 =>
      (aldD h25 x27 v11).bind fun x28 =>
      bnd (f_X9_times 4616189618054758400 x28 h25) fun x29 h30 =>
      bnd (f_X9_plus x24 x29 h30) fun x32 h33 =>
      bnd (f_X9_times x13 x32 h33) fun x35 h36 =>
      bnd (f_X9_plus x12 x35 h36) fun x38 h39 =>
      (ab_ck h39 v0 (9, 0)).bind fun a44 =>
      bnd (f_X9_put a44 v1 v11 x38 h39) fun x41 h42 =>
      (astD h42 x10 v11 x41).bind fun h46 =>
      f_X9_pair_159 n v0 v1 v2 v3 v5 (v11 + 1) h46
set_option maxHeartbeats 4000000 in
set_option maxRecDepth 100000 in
theorem w_X9_pair_159 {p : Program} {l : Launch} {e : Env} {s : State} {m : MethodId} {args : Array Value} {below : List Frame} {meth : Method} {c : Code} {D : va_G} {cA : Nat → ClassId} {sz : Nat}  {hh : Hp}  (X : ab_X p s m args meth c cX9_pair 12 RX9 D cA sz) (hr : meth.sig.returnType = none)  (n : Nat) : ∀ (v0 : Option Nat) (v1 : Int32) (v2 : Int32) (v3 : UInt64) (v5 : UInt64) (v11 : Int32) (h : Hp) (H : Heap) (locs : List Loc) (ls : Array Slot), ab_H D cA sz h s H locs → lv_has ls 12 [(0, va_rf v0), (1, .int v1), (2, .int v2), (3, .double v3), (5, .double v5), (11, .int v11)] → f_X9_pair_159 n v0 v1 v2 v3 v5 v11 h = some ((), hh) → W p l e (ab_rm 6 0 0) s m args below meth c H locs 0 0 (MQ below (ab_Q D cA sz none hh) args s 0 0 (fun q => sz ≤ q)) (F0 m 159 ls []) := by
  induction n with
  | zero => intro v0 v1 v2 v3 v5 v11 h H locs ls S hl hF; cases hF
  | succ n ih =>
    intro v0 v1 v2 v3 v5 v11 h H locs ls S hl hF
    rw [f_X9_pair_159] at hF
    refine lv_iload X.1 X.2.1 dX9_pair_159 (lv_at hl 5 rfl) ?_
    refine lv_iload_n X.1 X.2.1 dX9_pair_161 rfl (lv_at hl 2 rfl) ?_
    refine lv_icmp_ge (tgt := 249) X.1 X.2.1 dX9_pair_162 (by decide) (fun c1 => ?_) (fun c1 => ?_)
    · have hF := ab_pos c1 hF
      refine ab_aload_n X dX9_pair_249 rfl (lv_at hl 0 rfl) ?_
      refine lv_iload_n X.1 X.2.1 dX9_pair_250 rfl (lv_at hl 1 rfl) ?_
      refine lv_dload_n X.1 X.2.1 dX9_pair_251 rfl (lv_at hl 3 rfl) ?_
      refine lv_dload X.1 X.2.1 dX9_pair_252 (lv_at hl 4 rfl) ?_
      obtain ⟨x2, ev, ne, hF⟩ := ab_fopx hF
      refine lv_dadd X.1 X.2.1 dX9_pair_254 ne ?_
      rw [ev]
      refine ab_aload_n X dX9_pair_255 rfl (lv_at hl 0 rfl) ?_
      refine ab_getR X S hF fi_9_49 lf_X9_152 dX9_pair_256 (fun x3 hF => ?_)
      refine ab_aload_n X dX9_pair_259 rfl (lv_at hl 0 rfl) ?_
      refine ab_getR X S hF fi_9_55 lf_X9_170 dX9_pair_260 (fun x4 hF => ?_)
      obtain ⟨a8, e9, hF⟩ := bind_out hF
      obtain ⟨x5, h6, e7, hF⟩ := bnd_out hF
      refine ab_callVv X S e9 (c_X9_rates l D cA sz e7) rfl (by decide) mi_X9_rates lm_X9_254 li_yX9_rates ls_yX9_rates (As := [.int v1, .double x2, va_rf x3, va_rf x4]) (rest := []) rfl ⟨by decide, by decide⟩ ⟨(by decide), (by decide)⟩ hl.1 rfl (by simp [ab_cat, ab_cI, ab_cJ, ab_cD, ab_cF]) dX9_pair_263 (fun H1 locs1 S => ?_)
      refine lv_iconst (v := 0) X.1 X.2.1 dX9_pair_266 (by decide) ?_
      refine lv_istore (lv' := [(11, .int 0), (0, va_rf v0), (1, .int v1), (2, .int v2), (3, .double v3), (5, .double v5)]) X.1 X.2.1 dX9_pair_267 hl (by decide) (by simp [ab_cat, ab_cI, ab_cJ, ab_cD, ab_cF]) (fun ls hl => ?_)
      exact w_X9_pair_269 X hr  fuelN _ _ _ _ _ _ _ _ S (lv_sub hl [1, 3, 5, 0] rfl) hF
    · have hF := ab_neg c1 hF
      refine ab_aload_n X dX9_pair_165 rfl (lv_at hl 0 rfl) ?_
      refine ab_getR X S hF fi_9_49 lf_X9_152 dX9_pair_166 (fun x10 hF => ?_)
      refine lv_iload X.1 X.2.1 dX9_pair_169 (lv_at hl 5 rfl) ?_
      refine ab_aload_n X dX9_pair_171 rfl (lv_at hl 0 rfl) ?_
      refine lv_iload_n X.1 X.2.1 dX9_pair_172 rfl (lv_at hl 1 rfl) ?_
      refine lv_iload X.1 X.2.1 dX9_pair_173 (lv_at hl 5 rfl) ?_
      refine ab_aload_n X dX9_pair_175 rfl (lv_at hl 0 rfl) ?_
      refine ab_getR X S hF fi_9_47 lf_X9_146 dX9_pair_176 (fun x11 hF => ?_)
      refine lv_iload X.1 X.2.1 dX9_pair_179 (lv_at hl 5 rfl) ?_
      refine ab_aldD X S hF dX9_pair_181 (fun x12 hF => ?_)
      refine lv_dload X.1 X.2.1 dX9_pair_182 (lv_at hl 4 rfl) ?_
      refine lv_ldc2d (v := 4621256167635550208) X.1 X.2.1 X.2.2.2.1 (X.2.2.2.2.1 _ ld_X9_293) dX9_pair_184 ?_
      obtain ⟨x13, ev, ne, hF⟩ := ab_fopx hF
      refine lv_ddiv X.1 X.2.1 dX9_pair_187 ne ?_
      rw [ev]
      refine lv_ldc2d (v := 4611686018427387904) X.1 X.2.1 X.2.2.2.1 (X.2.2.2.2.1 _ ld_X9_285) dX9_pair_188 ?_
      refine ab_aload_n X dX9_pair_191 rfl (lv_at hl 0 rfl) ?_
      refine ab_getR X S hF fi_9_52 lf_X9_161 dX9_pair_192 (fun x14 hF => ?_)
      refine lv_iload X.1 X.2.1 dX9_pair_195 (lv_at hl 5 rfl) ?_
      refine ab_aldD X S hF dX9_pair_197 (fun x15 hF => ?_)
      obtain ⟨x16, h17, e18, hF⟩ := bnd_out hF
      refine ab_callSd X S (c_X9_times l D cA sz e18) mi_X9_times lm_X9_211 lt_yX9_times (As := [.double 4611686018427387904, .double x15]) (rest := [.double x13, .double x12, .int v11, .int v1, va_rf v0, .int v11, va_rf x10]) rfl ⟨by decide, by decide⟩ ⟨(by decide), (by decide)⟩ hl.1 rfl (by simp [ab_cat, ab_cI, ab_cJ, ab_cD, ab_cF]) dX9_pair_198 (fun H1 locs1 S => ?_)
      refine lv_ldc2d (v := 4613937818241073152) X.1 X.2.1 X.2.2.2.1 (X.2.2.2.2.1 _ ld_X9_291) dX9_pair_201 ?_
      refine ab_aload_n X dX9_pair_204 rfl (lv_at hl 0 rfl) ?_
      refine ab_getR X S hF fi_9_53 lf_X9_164 dX9_pair_205 (fun x19 hF => ?_)
      refine lv_iload X.1 X.2.1 dX9_pair_208 (lv_at hl 5 rfl) ?_
      refine ab_aldD X S hF dX9_pair_210 (fun x20 hF => ?_)
      obtain ⟨x21, h22, e23, hF⟩ := bnd_out hF
      refine ab_callSd X S (c_X9_times l D cA sz e23) mi_X9_times lm_X9_211 lt_yX9_times (As := [.double 4613937818241073152, .double x20]) (rest := [.double x16, .double x13, .double x12, .int v11, .int v1, va_rf v0, .int v11, va_rf x10]) rfl ⟨by decide, by decide⟩ ⟨(by decide), (by decide)⟩ hl.1 rfl (by simp [ab_cat, ab_cI, ab_cJ, ab_cD, ab_cF]) dX9_pair_211 (fun H1 locs1 S => ?_)
      obtain ⟨x24, h25, e26, hF⟩ := bnd_out hF
      refine ab_callSd X S (c_X9_plus l D cA sz e26) mi_X9_plus lm_X9_214 lt_yX9_plus (As := [.double x16, .double x21]) (rest := [.double x13, .double x12, .int v11, .int v1, va_rf v0, .int v11, va_rf x10]) rfl ⟨by decide, by decide⟩ ⟨(by decide), (by decide)⟩ hl.1 rfl (by simp [ab_cat, ab_cI, ab_cJ, ab_cD, ab_cF]) dX9_pair_214 (fun H1 locs1 S => ?_)
      refine lv_ldc2d (v := 4616189618054758400) X.1 X.2.1 X.2.2.2.1 (X.2.2.2.2.1 _ ld_X9_289) dX9_pair_217 ?_
      refine ab_aload_n X dX9_pair_220 rfl (lv_at hl 0 rfl) ?_
      refine ab_getR X S hF fi_9_54 lf_X9_167 dX9_pair_221 (fun x27 hF => ?_)
      refine lv_iload X.1 X.2.1 dX9_pair_224 (lv_at hl 5 rfl) ?_
      refine ab_aldD X S hF dX9_pair_226 (fun x28 hF => ?_)
      obtain ⟨x29, h30, e31, hF⟩ := bnd_out hF
      refine ab_callSd X S (c_X9_times l D cA sz e31) mi_X9_times lm_X9_211 lt_yX9_times (As := [.double 4616189618054758400, .double x28]) (rest := [.double x24, .double x13, .double x12, .int v11, .int v1, va_rf v0, .int v11, va_rf x10]) rfl ⟨by decide, by decide⟩ ⟨(by decide), (by decide)⟩ hl.1 rfl (by simp [ab_cat, ab_cI, ab_cJ, ab_cD, ab_cF]) dX9_pair_227 (fun H1 locs1 S => ?_)
      obtain ⟨x32, h33, e34, hF⟩ := bnd_out hF
      refine ab_callSd X S (c_X9_plus l D cA sz e34) mi_X9_plus lm_X9_214 lt_yX9_plus (As := [.double x24, .double x29]) (rest := [.double x13, .double x12, .int v11, .int v1, va_rf v0, .int v11, va_rf x10]) rfl ⟨by decide, by decide⟩ ⟨(by decide), (by decide)⟩ hl.1 rfl (by simp [ab_cat, ab_cI, ab_cJ, ab_cD, ab_cF]) dX9_pair_230 (fun H1 locs1 S => ?_)
      obtain ⟨x35, h36, e37, hF⟩ := bnd_out hF
      refine ab_callSd X S (c_X9_times l D cA sz e37) mi_X9_times lm_X9_211 lt_yX9_times (As := [.double x13, .double x32]) (rest := [.double x12, .int v11, .int v1, va_rf v0, .int v11, va_rf x10]) rfl ⟨by decide, by decide⟩ ⟨(by decide), (by decide)⟩ hl.1 rfl (by simp [ab_cat, ab_cI, ab_cJ, ab_cD, ab_cF]) dX9_pair_233 (fun H1 locs1 S => ?_)
      obtain ⟨x38, h39, e40, hF⟩ := bnd_out hF
      refine ab_callSd X S (c_X9_plus l D cA sz e40) mi_X9_plus lm_X9_214 lt_yX9_plus (As := [.double x12, .double x35]) (rest := [.int v11, .int v1, va_rf v0, .int v11, va_rf x10]) rfl ⟨by decide, by decide⟩ ⟨(by decide), (by decide)⟩ hl.1 rfl (by simp [ab_cat, ab_cI, ab_cJ, ab_cD, ab_cF]) dX9_pair_236 (fun H1 locs1 S => ?_)
      obtain ⟨a44, e45, hF⟩ := bind_out hF
      obtain ⟨x41, h42, e43, hF⟩ := bnd_out hF
      refine ab_callVd X S e45 (c_X9_put l D cA sz e43) rfl (by decide) mi_X9_put lm_X9_281 li_yX9_put ls_yX9_put (As := [.int v1, .int v11, .double x38]) (rest := [.int v11, va_rf x10]) rfl ⟨by decide, by decide⟩ ⟨(by decide), (by decide)⟩ hl.1 rfl (by simp [ab_cat, ab_cI, ab_cJ, ab_cD, ab_cF]) dX9_pair_239 (fun H1 locs1 S => ?_)
      refine ab_astD X S hF dX9_pair_242 (fun h46 H1 locs1 hF S => ?_)
      refine lv_iinc (v := v11 + 1) (lv' := [(11, .int (v11 + 1)), (0, va_rf v0), (1, .int v1), (2, .int v2), (3, .double v3), (5, .double v5)]) X.1 X.2.1 dX9_pair_243 hl (k := 5) rfl (by rfl) (by decide) (by simp [ab_cat, ab_cI, ab_cJ, ab_cD, ab_cF]) (fun ls hl => ?_)
      refine lv_goto (tgt := 159) X.1 X.2.1 dX9_pair_246 (by decide) ?_
      exact ih _ _ _ _ _ _ _ _ _ _ S (lv_sub hl [1, 2, 3, 4, 5, 0] rfl) hF
def f_X9_pair_91  : Nat → Option Nat → Int32 → Int32 → UInt64 → UInt64 → UInt64 → Int32 → Hp → Option (Unit × Hp)
  | 0, _, _, _, _, _, _, _, _ => none
  | n + 1, v0, v1, v2, v3, v5, v9, v11, h => if v2 ≤ v11 then
      (fop (FP.dadd v3 v9)).bind fun x2 =>
      (getR h v0 9 48).bind fun x3 =>
      (getR h v0 9 54).bind fun x4 =>
      (ab_ck h v0 (9, 0)).bind fun a8 =>
      bnd (f_X9_rates a8 v1 x2 x3 x4 h) fun _ h6 =>
      f_X9_pair_159 fuelN v0 v1 v2 v3 v5 0 h6
    else
      (getR h v0 9 48).bind fun x10 =>
      (getR h v0 9 47).bind fun x11 =>
      (aldD h x11 v11).bind fun x12 =>
      (getR h v0 9 53).bind fun x13 =>
      (aldD h x13 v11).bind fun x14 =>
      bnd (f_X9_times v9 x14 h) fun x15 h16 =>
      bnd (f_X9_plus x12 x15 h16) fun x18 h19 =>
      (ab_ck h19 v0 (9, 0)).bind fun a24 =>
      bnd (f_X9_put a24 v1 v11 x18 h19) fun x21 h22 =>
      (astD h22 x10 v11 x21).bind fun h26 =>
      f_X9_pair_91 n v0 v1 v2 v3 v5 v9 (v11 + 1) h26
set_option maxHeartbeats 4000000 in
set_option maxRecDepth 100000 in
theorem w_X9_pair_91 {p : Program} {l : Launch} {e : Env} {s : State} {m : MethodId} {args : Array Value} {below : List Frame} {meth : Method} {c : Code} {D : va_G} {cA : Nat → ClassId} {sz : Nat}  {hh : Hp}  (X : ab_X p s m args meth c cX9_pair 12 RX9 D cA sz) (hr : meth.sig.returnType = none)  (n : Nat) : ∀ (v0 : Option Nat) (v1 : Int32) (v2 : Int32) (v3 : UInt64) (v5 : UInt64) (v9 : UInt64) (v11 : Int32) (h : Hp) (H : Heap) (locs : List Loc) (ls : Array Slot), ab_H D cA sz h s H locs → lv_has ls 12 [(0, va_rf v0), (1, .int v1), (2, .int v2), (3, .double v3), (5, .double v5), (9, .double v9), (11, .int v11)] → f_X9_pair_91 n v0 v1 v2 v3 v5 v9 v11 h = some ((), hh) → W p l e (ab_rm 6 0 0) s m args below meth c H locs 0 0 (MQ below (ab_Q D cA sz none hh) args s 0 0 (fun q => sz ≤ q)) (F0 m 91 ls []) := by
  induction n with
  | zero => intro v0 v1 v2 v3 v5 v9 v11 h H locs ls S hl hF; cases hF
  | succ n ih =>
    intro v0 v1 v2 v3 v5 v9 v11 h H locs ls S hl hF
    rw [f_X9_pair_91] at hF
    refine lv_iload X.1 X.2.1 dX9_pair_91 (lv_at hl 6 rfl) ?_
    refine lv_iload_n X.1 X.2.1 dX9_pair_93 rfl (lv_at hl 2 rfl) ?_
    refine lv_icmp_ge (tgt := 139) X.1 X.2.1 dX9_pair_94 (by decide) (fun c1 => ?_) (fun c1 => ?_)
    · have hF := ab_pos c1 hF
      refine ab_aload_n X dX9_pair_139 rfl (lv_at hl 0 rfl) ?_
      refine lv_iload_n X.1 X.2.1 dX9_pair_140 rfl (lv_at hl 1 rfl) ?_
      refine lv_dload_n X.1 X.2.1 dX9_pair_141 rfl (lv_at hl 3 rfl) ?_
      refine lv_dload X.1 X.2.1 dX9_pair_142 (lv_at hl 5 rfl) ?_
      obtain ⟨x2, ev, ne, hF⟩ := ab_fopx hF
      refine lv_dadd X.1 X.2.1 dX9_pair_144 ne ?_
      rw [ev]
      refine ab_aload_n X dX9_pair_145 rfl (lv_at hl 0 rfl) ?_
      refine ab_getR X S hF fi_9_48 lf_X9_149 dX9_pair_146 (fun x3 hF => ?_)
      refine ab_aload_n X dX9_pair_149 rfl (lv_at hl 0 rfl) ?_
      refine ab_getR X S hF fi_9_54 lf_X9_167 dX9_pair_150 (fun x4 hF => ?_)
      obtain ⟨a8, e9, hF⟩ := bind_out hF
      obtain ⟨x5, h6, e7, hF⟩ := bnd_out hF
      refine ab_callVv X S e9 (c_X9_rates l D cA sz e7) rfl (by decide) mi_X9_rates lm_X9_254 li_yX9_rates ls_yX9_rates (As := [.int v1, .double x2, va_rf x3, va_rf x4]) (rest := []) rfl ⟨by decide, by decide⟩ ⟨(by decide), (by decide)⟩ hl.1 rfl (by simp [ab_cat, ab_cI, ab_cJ, ab_cD, ab_cF]) dX9_pair_153 (fun H1 locs1 S => ?_)
      refine lv_iconst (v := 0) X.1 X.2.1 dX9_pair_156 (by decide) ?_
      refine lv_istore (lv' := [(11, .int 0), (0, va_rf v0), (1, .int v1), (2, .int v2), (3, .double v3), (5, .double v5), (9, .double v9)]) X.1 X.2.1 dX9_pair_157 hl (by decide) (by simp [ab_cat, ab_cI, ab_cJ, ab_cD, ab_cF]) (fun ls hl => ?_)
      exact w_X9_pair_159 X hr  fuelN _ _ _ _ _ _ _ _ _ _ S (lv_sub hl [1, 2, 3, 4, 5, 0] rfl) hF
    · have hF := ab_neg c1 hF
      refine ab_aload_n X dX9_pair_97 rfl (lv_at hl 0 rfl) ?_
      refine ab_getR X S hF fi_9_48 lf_X9_149 dX9_pair_98 (fun x10 hF => ?_)
      refine lv_iload X.1 X.2.1 dX9_pair_101 (lv_at hl 6 rfl) ?_
      refine ab_aload_n X dX9_pair_103 rfl (lv_at hl 0 rfl) ?_
      refine lv_iload_n X.1 X.2.1 dX9_pair_104 rfl (lv_at hl 1 rfl) ?_
      refine lv_iload X.1 X.2.1 dX9_pair_105 (lv_at hl 6 rfl) ?_
      refine ab_aload_n X dX9_pair_107 rfl (lv_at hl 0 rfl) ?_
      refine ab_getR X S hF fi_9_47 lf_X9_146 dX9_pair_108 (fun x11 hF => ?_)
      refine lv_iload X.1 X.2.1 dX9_pair_111 (lv_at hl 6 rfl) ?_
      refine ab_aldD X S hF dX9_pair_113 (fun x12 hF => ?_)
      refine lv_dload X.1 X.2.1 dX9_pair_114 (lv_at hl 5 rfl) ?_
      refine ab_aload_n X dX9_pair_116 rfl (lv_at hl 0 rfl) ?_
      refine ab_getR X S hF fi_9_53 lf_X9_164 dX9_pair_117 (fun x13 hF => ?_)
      refine lv_iload X.1 X.2.1 dX9_pair_120 (lv_at hl 6 rfl) ?_
      refine ab_aldD X S hF dX9_pair_122 (fun x14 hF => ?_)
      obtain ⟨x15, h16, e17, hF⟩ := bnd_out hF
      refine ab_callSd X S (c_X9_times l D cA sz e17) mi_X9_times lm_X9_211 lt_yX9_times (As := [.double v9, .double x14]) (rest := [.double x12, .int v11, .int v1, va_rf v0, .int v11, va_rf x10]) rfl ⟨by decide, by decide⟩ ⟨(by decide), (by decide)⟩ hl.1 rfl (by simp [ab_cat, ab_cI, ab_cJ, ab_cD, ab_cF]) dX9_pair_123 (fun H1 locs1 S => ?_)
      obtain ⟨x18, h19, e20, hF⟩ := bnd_out hF
      refine ab_callSd X S (c_X9_plus l D cA sz e20) mi_X9_plus lm_X9_214 lt_yX9_plus (As := [.double x12, .double x15]) (rest := [.int v11, .int v1, va_rf v0, .int v11, va_rf x10]) rfl ⟨by decide, by decide⟩ ⟨(by decide), (by decide)⟩ hl.1 rfl (by simp [ab_cat, ab_cI, ab_cJ, ab_cD, ab_cF]) dX9_pair_126 (fun H1 locs1 S => ?_)
      obtain ⟨a24, e25, hF⟩ := bind_out hF
      obtain ⟨x21, h22, e23, hF⟩ := bnd_out hF
      refine ab_callVd X S e25 (c_X9_put l D cA sz e23) rfl (by decide) mi_X9_put lm_X9_281 li_yX9_put ls_yX9_put (As := [.int v1, .int v11, .double x18]) (rest := [.int v11, va_rf x10]) rfl ⟨by decide, by decide⟩ ⟨(by decide), (by decide)⟩ hl.1 rfl (by simp [ab_cat, ab_cI, ab_cJ, ab_cD, ab_cF]) dX9_pair_129 (fun H1 locs1 S => ?_)
      refine ab_astD X S hF dX9_pair_132 (fun h26 H1 locs1 hF S => ?_)
      refine lv_iinc (v := v11 + 1) (lv' := [(11, .int (v11 + 1)), (0, va_rf v0), (1, .int v1), (2, .int v2), (3, .double v3), (5, .double v5), (9, .double v9)]) X.1 X.2.1 dX9_pair_133 hl (k := 6) rfl (by rfl) (by decide) (by simp [ab_cat, ab_cI, ab_cJ, ab_cD, ab_cF]) (fun ls hl => ?_)
      refine lv_goto (tgt := 91) X.1 X.2.1 dX9_pair_136 (by decide) ?_
      exact ih _ _ _ _ _ _ _ _ _ _ _ S (lv_sub hl [1, 2, 3, 4, 5, 6, 0] rfl) hF
def f_X9_pair_23  : Nat → Option Nat → Int32 → Int32 → UInt64 → UInt64 → UInt64 → UInt64 → Int32 → Hp → Option (Unit × Hp)
  | 0, _, _, _, _, _, _, _, _, _ => none
  | n + 1, v0, v1, v2, v3, v5, v7, v9, v11, h => if v2 ≤ v11 then
      (fop (FP.dadd v3 v7)).bind fun x2 =>
      (getR h v0 9 48).bind fun x3 =>
      (getR h v0 9 53).bind fun x4 =>
      (ab_ck h v0 (9, 0)).bind fun a8 =>
      bnd (f_X9_rates a8 v1 x2 x3 x4 h) fun _ h6 =>
      f_X9_pair_91 fuelN v0 v1 v2 v3 v5 v9 0 h6
    else
      (getR h v0 9 48).bind fun x10 =>
      (getR h v0 9 47).bind fun x11 =>
      (aldD h x11 v11).bind fun x12 =>
      (getR h v0 9 52).bind fun x13 =>
      (aldD h x13 v11).bind fun x14 =>
      bnd (f_X9_times v7 x14 h) fun x15 h16 =>
      bnd (f_X9_plus x12 x15 h16) fun x18 h19 =>
      (ab_ck h19 v0 (9, 0)).bind fun a24 =>
      bnd (f_X9_put a24 v1 v11 x18 h19) fun x21 h22 =>
      (astD h22 x10 v11 x21).bind fun h26 =>
      f_X9_pair_23 n v0 v1 v2 v3 v5 v7 v9 (v11 + 1) h26
set_option maxHeartbeats 4000000 in
set_option maxRecDepth 100000 in
theorem w_X9_pair_23 {p : Program} {l : Launch} {e : Env} {s : State} {m : MethodId} {args : Array Value} {below : List Frame} {meth : Method} {c : Code} {D : va_G} {cA : Nat → ClassId} {sz : Nat}  {hh : Hp}  (X : ab_X p s m args meth c cX9_pair 12 RX9 D cA sz) (hr : meth.sig.returnType = none)  (n : Nat) : ∀ (v0 : Option Nat) (v1 : Int32) (v2 : Int32) (v3 : UInt64) (v5 : UInt64) (v7 : UInt64) (v9 : UInt64) (v11 : Int32) (h : Hp) (H : Heap) (locs : List Loc) (ls : Array Slot), ab_H D cA sz h s H locs → lv_has ls 12 [(0, va_rf v0), (1, .int v1), (2, .int v2), (3, .double v3), (5, .double v5), (7, .double v7), (9, .double v9), (11, .int v11)] → f_X9_pair_23 n v0 v1 v2 v3 v5 v7 v9 v11 h = some ((), hh) → W p l e (ab_rm 6 0 0) s m args below meth c H locs 0 0 (MQ below (ab_Q D cA sz none hh) args s 0 0 (fun q => sz ≤ q)) (F0 m 23 ls []) := by
  induction n with
  | zero => intro v0 v1 v2 v3 v5 v7 v9 v11 h H locs ls S hl hF; cases hF
  | succ n ih =>
    intro v0 v1 v2 v3 v5 v7 v9 v11 h H locs ls S hl hF
    rw [f_X9_pair_23] at hF
    refine lv_iload X.1 X.2.1 dX9_pair_23 (lv_at hl 7 rfl) ?_
    refine lv_iload_n X.1 X.2.1 dX9_pair_25 rfl (lv_at hl 2 rfl) ?_
    refine lv_icmp_ge (tgt := 71) X.1 X.2.1 dX9_pair_26 (by decide) (fun c1 => ?_) (fun c1 => ?_)
    · have hF := ab_pos c1 hF
      refine ab_aload_n X dX9_pair_71 rfl (lv_at hl 0 rfl) ?_
      refine lv_iload_n X.1 X.2.1 dX9_pair_72 rfl (lv_at hl 1 rfl) ?_
      refine lv_dload_n X.1 X.2.1 dX9_pair_73 rfl (lv_at hl 3 rfl) ?_
      refine lv_dload X.1 X.2.1 dX9_pair_74 (lv_at hl 5 rfl) ?_
      obtain ⟨x2, ev, ne, hF⟩ := ab_fopx hF
      refine lv_dadd X.1 X.2.1 dX9_pair_76 ne ?_
      rw [ev]
      refine ab_aload_n X dX9_pair_77 rfl (lv_at hl 0 rfl) ?_
      refine ab_getR X S hF fi_9_48 lf_X9_149 dX9_pair_78 (fun x3 hF => ?_)
      refine ab_aload_n X dX9_pair_81 rfl (lv_at hl 0 rfl) ?_
      refine ab_getR X S hF fi_9_53 lf_X9_164 dX9_pair_82 (fun x4 hF => ?_)
      obtain ⟨a8, e9, hF⟩ := bind_out hF
      obtain ⟨x5, h6, e7, hF⟩ := bnd_out hF
      refine ab_callVv X S e9 (c_X9_rates l D cA sz e7) rfl (by decide) mi_X9_rates lm_X9_254 li_yX9_rates ls_yX9_rates (As := [.int v1, .double x2, va_rf x3, va_rf x4]) (rest := []) rfl ⟨by decide, by decide⟩ ⟨(by decide), (by decide)⟩ hl.1 rfl (by simp [ab_cat, ab_cI, ab_cJ, ab_cD, ab_cF]) dX9_pair_85 (fun H1 locs1 S => ?_)
      refine lv_iconst (v := 0) X.1 X.2.1 dX9_pair_88 (by decide) ?_
      refine lv_istore (lv' := [(11, .int 0), (0, va_rf v0), (1, .int v1), (2, .int v2), (3, .double v3), (5, .double v5), (7, .double v7), (9, .double v9)]) X.1 X.2.1 dX9_pair_89 hl (by decide) (by simp [ab_cat, ab_cI, ab_cJ, ab_cD, ab_cF]) (fun ls hl => ?_)
      exact w_X9_pair_91 X hr  fuelN _ _ _ _ _ _ _ _ _ _ _ S (lv_sub hl [1, 2, 3, 4, 5, 7, 0] rfl) hF
    · have hF := ab_neg c1 hF
      refine ab_aload_n X dX9_pair_29 rfl (lv_at hl 0 rfl) ?_
      refine ab_getR X S hF fi_9_48 lf_X9_149 dX9_pair_30 (fun x10 hF => ?_)
      refine lv_iload X.1 X.2.1 dX9_pair_33 (lv_at hl 7 rfl) ?_
      refine ab_aload_n X dX9_pair_35 rfl (lv_at hl 0 rfl) ?_
      refine lv_iload_n X.1 X.2.1 dX9_pair_36 rfl (lv_at hl 1 rfl) ?_
      refine lv_iload X.1 X.2.1 dX9_pair_37 (lv_at hl 7 rfl) ?_
      refine ab_aload_n X dX9_pair_39 rfl (lv_at hl 0 rfl) ?_
      refine ab_getR X S hF fi_9_47 lf_X9_146 dX9_pair_40 (fun x11 hF => ?_)
      refine lv_iload X.1 X.2.1 dX9_pair_43 (lv_at hl 7 rfl) ?_
      refine ab_aldD X S hF dX9_pair_45 (fun x12 hF => ?_)
      refine lv_dload X.1 X.2.1 dX9_pair_46 (lv_at hl 5 rfl) ?_
      refine ab_aload_n X dX9_pair_48 rfl (lv_at hl 0 rfl) ?_
      refine ab_getR X S hF fi_9_52 lf_X9_161 dX9_pair_49 (fun x13 hF => ?_)
      refine lv_iload X.1 X.2.1 dX9_pair_52 (lv_at hl 7 rfl) ?_
      refine ab_aldD X S hF dX9_pair_54 (fun x14 hF => ?_)
      obtain ⟨x15, h16, e17, hF⟩ := bnd_out hF
      refine ab_callSd X S (c_X9_times l D cA sz e17) mi_X9_times lm_X9_211 lt_yX9_times (As := [.double v7, .double x14]) (rest := [.double x12, .int v11, .int v1, va_rf v0, .int v11, va_rf x10]) rfl ⟨by decide, by decide⟩ ⟨(by decide), (by decide)⟩ hl.1 rfl (by simp [ab_cat, ab_cI, ab_cJ, ab_cD, ab_cF]) dX9_pair_55 (fun H1 locs1 S => ?_)
      obtain ⟨x18, h19, e20, hF⟩ := bnd_out hF
      refine ab_callSd X S (c_X9_plus l D cA sz e20) mi_X9_plus lm_X9_214 lt_yX9_plus (As := [.double x12, .double x15]) (rest := [.int v11, .int v1, va_rf v0, .int v11, va_rf x10]) rfl ⟨by decide, by decide⟩ ⟨(by decide), (by decide)⟩ hl.1 rfl (by simp [ab_cat, ab_cI, ab_cJ, ab_cD, ab_cF]) dX9_pair_58 (fun H1 locs1 S => ?_)
      obtain ⟨a24, e25, hF⟩ := bind_out hF
      obtain ⟨x21, h22, e23, hF⟩ := bnd_out hF
      refine ab_callVd X S e25 (c_X9_put l D cA sz e23) rfl (by decide) mi_X9_put lm_X9_281 li_yX9_put ls_yX9_put (As := [.int v1, .int v11, .double x18]) (rest := [.int v11, va_rf x10]) rfl ⟨by decide, by decide⟩ ⟨(by decide), (by decide)⟩ hl.1 rfl (by simp [ab_cat, ab_cI, ab_cJ, ab_cD, ab_cF]) dX9_pair_61 (fun H1 locs1 S => ?_)
      refine ab_astD X S hF dX9_pair_64 (fun h26 H1 locs1 hF S => ?_)
      refine lv_iinc (v := v11 + 1) (lv' := [(11, .int (v11 + 1)), (0, va_rf v0), (1, .int v1), (2, .int v2), (3, .double v3), (5, .double v5), (7, .double v7), (9, .double v9)]) X.1 X.2.1 dX9_pair_65 hl (k := 7) rfl (by rfl) (by decide) (by simp [ab_cat, ab_cI, ab_cJ, ab_cD, ab_cF]) (fun ls hl => ?_)
      refine lv_goto (tgt := 23) X.1 X.2.1 dX9_pair_68 (by decide) ?_
      exact ih _ _ _ _ _ _ _ _ _ _ _ _ S (lv_sub hl [1, 2, 3, 4, 5, 6, 7, 0] rfl) hF
def f_X9_pair (this : Nat) (p0 : Int32) (p1 : Int32) (p2 : UInt64) (p3 : UInt64) (h : Hp) : Option (Unit × Hp) :=
  (fop (FP.ddiv p3 4611686018427387904)).bind fun x1 =>
  (fop (FP.dmul 4613937818241073152 p3)).bind fun x2 =>
  (fop (FP.ddiv x2 4616189618054758400)).bind fun x3 =>
  f_X9_pair_23 fuelN (some this) p0 p1 p2 p3 x1 x3 0 h
theorem mi_X9_pair : ab_MI yX9_pair cX9_pair 12 none 4 := ⟨lc_yX9_pair, lz_RX9, by decide, by decide, by decide +kernel⟩
set_option maxHeartbeats 4000000 in
set_option maxRecDepth 100000 in
theorem c_X9_pair (l : Launch) (D : va_G) (cA : Nat → ClassId) (sz : Nat) {this : Nat} {p0 : Int32} {p1 : Int32} {p2 : UInt64} {p3 : UInt64} {h hh : Hp}  (hF : f_X9_pair this p0 p1 p2 p3 h = some ((), hh)) : ab_C l D cA sz yX9_pair cX9_pair 12 none 6 0 0 [.ref this, .int p0, .int p1, .double p2, .double p3] h none hh := by
  refine Met.ofW (cc := cX9_pair) (maxL := 12) (ret := none) (by decide) rfl ?_
  intro p e s m args below meth c s₁ B hml hv
  obtain ⟨rfl, hT, hR⟩ := hv
  have X : ab_X p s m _ meth c cX9_pair 12 RX9 D cA sz := (ab_enter B hml hT hR).1
  have S := (ab_enter B hml hT hR).2
  have hr := B.returns
  obtain ⟨ls, hls, hl⟩ := ab_entry m [.ref this, .int p0, .int p1, .double p2, .double p3] 12 (lv := [(0, .ref this), (1, .int p0), (2, .int p1), (3, .double p2), (5, .double p3)]) (by simp [lg_sl, ab_cat, ab_cI, ab_cJ, ab_cD, ab_cF, ab_cA]) (by simp [lv_args, ab_cat, ab_cI, ab_cJ, ab_cD, ab_cF, ab_cA])
  rw [hls]
  have hl : lv_has ls 12 [(0, va_rf (some this)), (1, .int p0), (2, .int p1), (3, .double p2), (5, .double p3)] := hl
  unfold f_X9_pair at hF
  show W p l e (ab_rm 6 0 0) s m _ below meth c s.heap [] 0 0 _ _
  refine lv_dload X.1 X.2.1 dX9_pair_0 (lv_at hl 4 rfl) ?_
  refine lv_ldc2d (v := 4611686018427387904) X.1 X.2.1 X.2.2.2.1 (X.2.2.2.2.1 _ ld_X9_285) dX9_pair_2 ?_
  obtain ⟨x1, ev, ne, hF⟩ := ab_fopx hF
  refine lv_ddiv X.1 X.2.1 dX9_pair_5 ne ?_
  rw [ev]
  refine lv_dstore (lv' := [(7, .double x1), (0, va_rf (some this)), (1, .int p0), (2, .int p1), (3, .double p2), (5, .double p3)]) X.1 X.2.1 dX9_pair_6 hl (by decide) (by simp [ab_cat, ab_cI, ab_cJ, ab_cD, ab_cF]) (fun ls hl => ?_)
  refine lv_ldc2d (v := 4613937818241073152) X.1 X.2.1 X.2.2.2.1 (X.2.2.2.2.1 _ ld_X9_291) dX9_pair_8 ?_
  refine lv_dload X.1 X.2.1 dX9_pair_11 (lv_at hl 5 rfl) ?_
  obtain ⟨x2, ev, ne, hF⟩ := ab_fopx hF
  refine lv_dmul X.1 X.2.1 dX9_pair_13 ne ?_
  rw [ev]
  refine lv_ldc2d (v := 4616189618054758400) X.1 X.2.1 X.2.2.2.1 (X.2.2.2.2.1 _ ld_X9_289) dX9_pair_14 ?_
  obtain ⟨x3, ev, ne, hF⟩ := ab_fopx hF
  refine lv_ddiv X.1 X.2.1 dX9_pair_17 ne ?_
  rw [ev]
  refine lv_dstore (lv' := [(9, .double x3), (7, .double x1), (0, va_rf (some this)), (1, .int p0), (2, .int p1), (3, .double p2), (5, .double p3)]) X.1 X.2.1 dX9_pair_18 hl (by decide) (by simp [ab_cat, ab_cI, ab_cJ, ab_cD, ab_cF]) (fun ls hl => ?_)
  refine lv_iconst (v := 0) X.1 X.2.1 dX9_pair_20 (by decide) ?_
  refine lv_istore (lv' := [(11, .int 0), (9, .double x3), (7, .double x1), (0, va_rf (some this)), (1, .int p0), (2, .int p1), (3, .double p2), (5, .double p3)]) X.1 X.2.1 dX9_pair_21 hl (by decide) (by simp [ab_cat, ab_cI, ab_cJ, ab_cD, ab_cF]) (fun ls hl => ?_)
  exact w_X9_pair_23 X hr  fuelN _ _ _ _ _ _ _ _ _ _ _ _ S (lv_sub hl [3, 4, 5, 6, 7, 2, 1, 0] rfl) hF
def f_X9_backward_165 (k_54 : Option Nat → Int32 → Int32 → UInt64 → UInt64 → Int32 → Hp → Option (Unit × Hp)) : Nat → Option Nat → Int32 → Int32 → UInt64 → UInt64 → Int32 → Int32 → Hp → Option (Unit × Hp)
  | 0, _, _, _, _, _, _, _, _ => none
  | n + 1, v0, v1, v2, v3, v5, v7, v8, h => if v2 ≤ v8 then
      k_54 v0 v1 v2 v3 v5 (v7 + 1) h
    else
      (getR h v0 9 49).bind fun x2 =>
      (getR h v0 9 50).bind fun x3 =>
      (aldD h x3 v8).bind fun x4 =>
      (astD h x2 v8 x4).bind fun h5 =>
      f_X9_backward_165 k_54 n v0 v1 v2 v3 v5 v7 (v8 + 1) h5
set_option maxHeartbeats 4000000 in
set_option maxRecDepth 100000 in
theorem w_X9_backward_165 {p : Program} {l : Launch} {e : Env} {s : State} {m : MethodId} {args : Array Value} {below : List Frame} {meth : Method} {c : Code} {D : va_G} {cA : Nat → ClassId} {sz : Nat}  {hh : Hp} {k_54 : Option Nat → Int32 → Int32 → UInt64 → UInt64 → Int32 → Hp → Option (Unit × Hp)} (X : ab_X p s m args meth c cX9_backward 9 RX9 D cA sz) (hr : meth.sig.returnType = none) (hk_54 : ∀ (v0 : Option Nat) (v1 : Int32) (v2 : Int32) (v3 : UInt64) (v5 : UInt64) (v7 : Int32) (h : Hp) (H : Heap) (locs : List Loc) (ls : Array Slot), ab_H D cA sz h s H locs → lv_has ls 9 [(0, va_rf v0), (1, .int v1), (2, .int v2), (3, .double v3), (5, .double v5), (7, .int v7)] → k_54 v0 v1 v2 v3 v5 v7 h = some ((), hh) → W p l e (ab_rm 6 0 0) s m args below meth c H locs 0 0 (MQ below (ab_Q D cA sz none hh) args s 0 0 (fun q => sz ≤ q)) (F0 m 54 ls [])) (n : Nat) : ∀ (v0 : Option Nat) (v1 : Int32) (v2 : Int32) (v3 : UInt64) (v5 : UInt64) (v7 : Int32) (v8 : Int32) (h : Hp) (H : Heap) (locs : List Loc) (ls : Array Slot), ab_H D cA sz h s H locs → lv_has ls 9 [(0, va_rf v0), (1, .int v1), (2, .int v2), (3, .double v3), (5, .double v5), (7, .int v7), (8, .int v8)] → f_X9_backward_165 k_54 n v0 v1 v2 v3 v5 v7 v8 h = some ((), hh) → W p l e (ab_rm 6 0 0) s m args below meth c H locs 0 0 (MQ below (ab_Q D cA sz none hh) args s 0 0 (fun q => sz ≤ q)) (F0 m 165 ls []) := by
  induction n with
  | zero => intro v0 v1 v2 v3 v5 v7 v8 h H locs ls S hl hF; cases hF
  | succ n ih =>
    intro v0 v1 v2 v3 v5 v7 v8 h H locs ls S hl hF
    rw [f_X9_backward_165] at hF
    refine lv_iload X.1 X.2.1 dX9_backward_165 (lv_at hl 6 rfl) ?_
    refine lv_iload_n X.1 X.2.1 dX9_backward_167 rfl (lv_at hl 2 rfl) ?_
    refine lv_icmp_ge (tgt := 191) X.1 X.2.1 dX9_backward_168 (by decide) (fun c1 => ?_) (fun c1 => ?_)
    · have hF := ab_pos c1 hF
      refine lv_iinc (v := v7 + 1) (lv' := [(7, .int (v7 + 1)), (0, va_rf v0), (1, .int v1), (2, .int v2), (3, .double v3), (5, .double v5), (8, .int v8)]) X.1 X.2.1 dX9_backward_191 hl (k := 5) rfl (by rfl) (by decide) (by simp [ab_cat, ab_cI, ab_cJ, ab_cD, ab_cF]) (fun ls hl => ?_)
      refine lv_goto (tgt := 54) X.1 X.2.1 dX9_backward_194 (by decide) ?_
      exact hk_54 _ _ _ _ _ _ _ _ _ _ S (lv_sub hl [1, 2, 3, 4, 5, 0] rfl) hF
    · have hF := ab_neg c1 hF
      refine ab_aload_n X dX9_backward_171 rfl (lv_at hl 0 rfl) ?_
      refine ab_getR X S hF fi_9_49 lf_X9_152 dX9_backward_172 (fun x2 hF => ?_)
      refine lv_iload X.1 X.2.1 dX9_backward_175 (lv_at hl 6 rfl) ?_
      refine ab_aload_n X dX9_backward_177 rfl (lv_at hl 0 rfl) ?_
      refine ab_getR X S hF fi_9_50 lf_X9_155 dX9_backward_178 (fun x3 hF => ?_)
      refine lv_iload X.1 X.2.1 dX9_backward_181 (lv_at hl 6 rfl) ?_
      refine ab_aldD X S hF dX9_backward_183 (fun x4 hF => ?_)
      refine ab_astD X S hF dX9_backward_184 (fun h5 H1 locs1 hF S => ?_)
      refine lv_iinc (v := v8 + 1) (lv' := [(8, .int (v8 + 1)), (0, va_rf v0), (1, .int v1), (2, .int v2), (3, .double v3), (5, .double v5), (7, .int v7)]) X.1 X.2.1 dX9_backward_185 hl (k := 6) rfl (by rfl) (by decide) (by simp [ab_cat, ab_cI, ab_cJ, ab_cD, ab_cF]) (fun ls hl => ?_)
      refine lv_goto (tgt := 165) X.1 X.2.1 dX9_backward_188 (by decide) ?_
      exact ih _ _ _ _ _ _ _ _ _ _ _ S (lv_sub hl [1, 2, 3, 4, 5, 6, 0] rfl) hF
def f_X9_backward_156 (k_54 : Option Nat → Int32 → Int32 → UInt64 → UInt64 → Int32 → Hp → Option (Unit × Hp)) (k_86 : Option Nat → Int32 → Int32 → UInt64 → UInt64 → Int32 → Int32 → Hp → Option (Unit × Hp)) (v0 : Option Nat) (v1 : Int32) (v2 : Int32) (v3 : UInt64) (v5 : UInt64) (v7 : Int32) (v8 : Int32) (h : Hp) : Option (Unit × Hp) :=
  k_86 v0 v1 v2 v3 v5 v7 (v8 + 1) h
set_option maxHeartbeats 4000000 in
set_option maxRecDepth 100000 in
theorem w_X9_backward_156 {p : Program} {l : Launch} {e : Env} {s : State} {m : MethodId} {args : Array Value} {below : List Frame} {meth : Method} {c : Code} {D : va_G} {cA : Nat → ClassId} {sz : Nat}  {hh : Hp} {k_54 : Option Nat → Int32 → Int32 → UInt64 → UInt64 → Int32 → Hp → Option (Unit × Hp)} {k_86 : Option Nat → Int32 → Int32 → UInt64 → UInt64 → Int32 → Int32 → Hp → Option (Unit × Hp)} (X : ab_X p s m args meth c cX9_backward 9 RX9 D cA sz) (hr : meth.sig.returnType = none) (hk_54 : ∀ (v0 : Option Nat) (v1 : Int32) (v2 : Int32) (v3 : UInt64) (v5 : UInt64) (v7 : Int32) (h : Hp) (H : Heap) (locs : List Loc) (ls : Array Slot), ab_H D cA sz h s H locs → lv_has ls 9 [(0, va_rf v0), (1, .int v1), (2, .int v2), (3, .double v3), (5, .double v5), (7, .int v7)] → k_54 v0 v1 v2 v3 v5 v7 h = some ((), hh) → W p l e (ab_rm 6 0 0) s m args below meth c H locs 0 0 (MQ below (ab_Q D cA sz none hh) args s 0 0 (fun q => sz ≤ q)) (F0 m 54 ls [])) (hk_86 : ∀ (v0 : Option Nat) (v1 : Int32) (v2 : Int32) (v3 : UInt64) (v5 : UInt64) (v7 : Int32) (v8 : Int32) (h : Hp) (H : Heap) (locs : List Loc) (ls : Array Slot), ab_H D cA sz h s H locs → lv_has ls 9 [(0, va_rf v0), (1, .int v1), (2, .int v2), (3, .double v3), (5, .double v5), (7, .int v7), (8, .int v8)] → k_86 v0 v1 v2 v3 v5 v7 v8 h = some ((), hh) → W p l e (ab_rm 6 0 0) s m args below meth c H locs 0 0 (MQ below (ab_Q D cA sz none hh) args s 0 0 (fun q => sz ≤ q)) (F0 m 86 ls [])) {H : Heap} {locs : List Loc} {ls : Array Slot} {v0 : Option Nat} {v1 : Int32} {v2 : Int32} {v3 : UInt64} {v5 : UInt64} {v7 : Int32} {v8 : Int32} {h : Hp} (S : ab_H D cA sz h s H locs) (hl : lv_has ls 9 [(0, va_rf v0), (1, .int v1), (2, .int v2), (3, .double v3), (5, .double v5), (7, .int v7), (8, .int v8)]) (hF : f_X9_backward_156 k_54 k_86 v0 v1 v2 v3 v5 v7 v8 h = some ((), hh)) : W p l e (ab_rm 6 0 0) s m args below meth c H locs 0 0 (MQ below (ab_Q D cA sz none hh) args s 0 0 (fun q => sz ≤ q)) (F0 m 156 ls []) := by
  unfold f_X9_backward_156 at hF
  refine lv_iinc (v := v8 + 1) (lv' := [(8, .int (v8 + 1)), (0, va_rf v0), (1, .int v1), (2, .int v2), (3, .double v3), (5, .double v5), (7, .int v7)]) X.1 X.2.1 dX9_backward_156 hl (k := 6) rfl (by rfl) (by decide) (by simp [ab_cat, ab_cI, ab_cJ, ab_cD, ab_cF]) (fun ls hl => ?_)
  refine lv_goto (tgt := 86) X.1 X.2.1 dX9_backward_159 (by decide) ?_
  exact hk_86 _ _ _ _ _ _ _ _ _ _ _ S (lv_sub hl [1, 2, 3, 4, 5, 6, 0] rfl) hF
def f_X9_backward_86 (k_54 : Option Nat → Int32 → Int32 → UInt64 → UInt64 → Int32 → Hp → Option (Unit × Hp)) : Nat → Option Nat → Int32 → Int32 → UInt64 → UInt64 → Int32 → Int32 → Hp → Option (Unit × Hp)
  | 0, _, _, _, _, _, _, _, _ => none
  | n + 1, v0, v1, v2, v3, v5, v7, v8, h => if v2 ≤ v8 then
      f_X9_backward_165 k_54 fuelN v0 v1 v2 v3 v5 v7 0 h
    else
      (getR h v0 9 50).bind fun x2 =>
      (getR h v0 9 47).bind fun x3 =>
      (aldD h x3 v8).bind fun x4 =>
      (getR h v0 9 53).bind fun x5 =>
      (aldD h x5 v8).bind fun x6 =>
      bnd (f_X9_times v5 x6 h) fun x7 h8 =>
      bnd (f_X9_plus x4 x7 h8) fun x10 h11 =>
      (ab_ck h11 v0 (9, 0)).bind fun a16 =>
      bnd (f_X9_put a16 v1 v8 x10 h11) fun x13 h14 =>
      (astD h14 x2 v8 x13).bind fun h18 =>
      (getR h18 v0 9 50).bind fun x19 =>
      (aldD h18 x19 v8).bind fun x20 =>
      (getR h18 v0 9 49).bind fun x21 =>
      (aldD h18 x21 v8).bind fun x22 =>
      if (Op.cmpValue (FP.dcmp x20 x22) CmpOp.l) = 0 then
        f_X9_backward_156 k_54 (f_X9_backward_86 k_54 n) v0 v1 v2 v3 v5 v7 v8 h18
      else
        (getI h18 v0 9 61).bind fun x24 =>
        (putI h18 v0 9 61 (x24 + 1)).bind fun h25 =>
        f_X9_backward_156 k_54 (f_X9_backward_86 k_54 n) v0 v1 v2 v3 v5 v7 v8 h25
set_option maxHeartbeats 4000000 in
set_option maxRecDepth 100000 in
theorem w_X9_backward_86 {p : Program} {l : Launch} {e : Env} {s : State} {m : MethodId} {args : Array Value} {below : List Frame} {meth : Method} {c : Code} {D : va_G} {cA : Nat → ClassId} {sz : Nat}  {hh : Hp} {k_54 : Option Nat → Int32 → Int32 → UInt64 → UInt64 → Int32 → Hp → Option (Unit × Hp)} (X : ab_X p s m args meth c cX9_backward 9 RX9 D cA sz) (hr : meth.sig.returnType = none) (hk_54 : ∀ (v0 : Option Nat) (v1 : Int32) (v2 : Int32) (v3 : UInt64) (v5 : UInt64) (v7 : Int32) (h : Hp) (H : Heap) (locs : List Loc) (ls : Array Slot), ab_H D cA sz h s H locs → lv_has ls 9 [(0, va_rf v0), (1, .int v1), (2, .int v2), (3, .double v3), (5, .double v5), (7, .int v7)] → k_54 v0 v1 v2 v3 v5 v7 h = some ((), hh) → W p l e (ab_rm 6 0 0) s m args below meth c H locs 0 0 (MQ below (ab_Q D cA sz none hh) args s 0 0 (fun q => sz ≤ q)) (F0 m 54 ls [])) (n : Nat) : ∀ (v0 : Option Nat) (v1 : Int32) (v2 : Int32) (v3 : UInt64) (v5 : UInt64) (v7 : Int32) (v8 : Int32) (h : Hp) (H : Heap) (locs : List Loc) (ls : Array Slot), ab_H D cA sz h s H locs → lv_has ls 9 [(0, va_rf v0), (1, .int v1), (2, .int v2), (3, .double v3), (5, .double v5), (7, .int v7), (8, .int v8)] → f_X9_backward_86 k_54 n v0 v1 v2 v3 v5 v7 v8 h = some ((), hh) → W p l e (ab_rm 6 0 0) s m args below meth c H locs 0 0 (MQ below (ab_Q D cA sz none hh) args s 0 0 (fun q => sz ≤ q)) (F0 m 86 ls []) := by
  induction n with
  | zero => intro v0 v1 v2 v3 v5 v7 v8 h H locs ls S hl hF; cases hF
  | succ n ih =>
    intro v0 v1 v2 v3 v5 v7 v8 h H locs ls S hl hF
    rw [f_X9_backward_86] at hF
    refine lv_iload X.1 X.2.1 dX9_backward_86 (lv_at hl 6 rfl) ?_
    refine lv_iload_n X.1 X.2.1 dX9_backward_88 rfl (lv_at hl 2 rfl) ?_
    refine lv_icmp_ge (tgt := 162) X.1 X.2.1 dX9_backward_89 (by decide) (fun c1 => ?_) (fun c1 => ?_)
    · have hF := ab_pos c1 hF
      refine lv_iconst (v := 0) X.1 X.2.1 dX9_backward_162 (by decide) ?_
      refine lv_istore (lv' := [(8, .int 0), (0, va_rf v0), (1, .int v1), (2, .int v2), (3, .double v3), (5, .double v5), (7, .int v7)]) X.1 X.2.1 dX9_backward_163 hl (by decide) (by simp [ab_cat, ab_cI, ab_cJ, ab_cD, ab_cF]) (fun ls hl => ?_)
      exact w_X9_backward_165 X hr hk_54 fuelN _ _ _ _ _ _ _ _ _ _ _ S (lv_sub hl [1, 2, 3, 4, 5, 6, 0] rfl) hF
    · have hF := ab_neg c1 hF
      refine ab_aload_n X dX9_backward_92 rfl (lv_at hl 0 rfl) ?_
      refine ab_getR X S hF fi_9_50 lf_X9_155 dX9_backward_93 (fun x2 hF => ?_)
      refine lv_iload X.1 X.2.1 dX9_backward_96 (lv_at hl 6 rfl) ?_
      refine ab_aload_n X dX9_backward_98 rfl (lv_at hl 0 rfl) ?_
      refine lv_iload_n X.1 X.2.1 dX9_backward_99 rfl (lv_at hl 1 rfl) ?_
      refine lv_iload X.1 X.2.1 dX9_backward_100 (lv_at hl 6 rfl) ?_
      refine ab_aload_n X dX9_backward_102 rfl (lv_at hl 0 rfl) ?_
      refine ab_getR X S hF fi_9_47 lf_X9_146 dX9_backward_103 (fun x3 hF => ?_)
      refine lv_iload X.1 X.2.1 dX9_backward_106 (lv_at hl 6 rfl) ?_
      refine ab_aldD X S hF dX9_backward_108 (fun x4 hF => ?_)
      refine lv_dload X.1 X.2.1 dX9_backward_109 (lv_at hl 4 rfl) ?_
      refine ab_aload_n X dX9_backward_111 rfl (lv_at hl 0 rfl) ?_
      refine ab_getR X S hF fi_9_53 lf_X9_164 dX9_backward_112 (fun x5 hF => ?_)
      refine lv_iload X.1 X.2.1 dX9_backward_115 (lv_at hl 6 rfl) ?_
      refine ab_aldD X S hF dX9_backward_117 (fun x6 hF => ?_)
      obtain ⟨x7, h8, e9, hF⟩ := bnd_out hF
      refine ab_callSd X S (c_X9_times l D cA sz e9) mi_X9_times lm_X9_211 lt_yX9_times (As := [.double v5, .double x6]) (rest := [.double x4, .int v8, .int v1, va_rf v0, .int v8, va_rf x2]) rfl ⟨by decide, by decide⟩ ⟨(by decide), (by decide)⟩ hl.1 rfl (by simp [ab_cat, ab_cI, ab_cJ, ab_cD, ab_cF]) dX9_backward_118 (fun H1 locs1 S => ?_)
      obtain ⟨x10, h11, e12, hF⟩ := bnd_out hF
      refine ab_callSd X S (c_X9_plus l D cA sz e12) mi_X9_plus lm_X9_214 lt_yX9_plus (As := [.double x4, .double x7]) (rest := [.int v8, .int v1, va_rf v0, .int v8, va_rf x2]) rfl ⟨by decide, by decide⟩ ⟨(by decide), (by decide)⟩ hl.1 rfl (by simp [ab_cat, ab_cI, ab_cJ, ab_cD, ab_cF]) dX9_backward_121 (fun H1 locs1 S => ?_)
      obtain ⟨a16, e17, hF⟩ := bind_out hF
      obtain ⟨x13, h14, e15, hF⟩ := bnd_out hF
      refine ab_callVd X S e17 (c_X9_put l D cA sz e15) rfl (by decide) mi_X9_put lm_X9_281 li_yX9_put ls_yX9_put (As := [.int v1, .int v8, .double x10]) (rest := [.int v8, va_rf x2]) rfl ⟨by decide, by decide⟩ ⟨(by decide), (by decide)⟩ hl.1 rfl (by simp [ab_cat, ab_cI, ab_cJ, ab_cD, ab_cF]) dX9_backward_124 (fun H1 locs1 S => ?_)
      refine ab_astD X S hF dX9_backward_127 (fun h18 H1 locs1 hF S => ?_)
      refine ab_aload_n X dX9_backward_128 rfl (lv_at hl 0 rfl) ?_
      refine ab_getR X S hF fi_9_50 lf_X9_155 dX9_backward_129 (fun x19 hF => ?_)
      refine lv_iload X.1 X.2.1 dX9_backward_132 (lv_at hl 6 rfl) ?_
      refine ab_aldD X S hF dX9_backward_134 (fun x20 hF => ?_)
      refine ab_aload_n X dX9_backward_135 rfl (lv_at hl 0 rfl) ?_
      refine ab_getR X S hF fi_9_49 lf_X9_152 dX9_backward_136 (fun x21 hF => ?_)
      refine lv_iload X.1 X.2.1 dX9_backward_139 (lv_at hl 6 rfl) ?_
      refine ab_aldD X S hF dX9_backward_141 (fun x22 hF => ?_)
      refine lv_dcmp X.1 X.2.1 dX9_backward_142 ?_
      refine lv_if_eq (tgt := 156) X.1 X.2.1 dX9_backward_143 (by decide) (fun c23 => ?_) (fun c23 => ?_)
      · have hF := ab_pos c23 hF
        exact w_X9_backward_156 X hr hk_54 ih S (lv_sub hl [0, 1, 2, 3, 4, 5, 6] rfl) hF
      · have hF := ab_neg c23 hF
        refine ab_aload_n X dX9_backward_146 rfl (lv_at hl 0 rfl) ?_
        refine lv_dup X.1 X.2.1 dX9_backward_147 (by simp [ab_cat, ab_cI, ab_cJ, ab_cD, ab_cF]) ?_
        refine ab_getI X S hF fi_9_61 lf_X9_250 dX9_backward_148 (fun x24 hF => ?_)
        refine lv_iconst (v := 1) X.1 X.2.1 dX9_backward_151 (by decide) ?_
        refine lv_iadd X.1 X.2.1 dX9_backward_152 ?_
        refine ab_putI X S hF fi_9_61 ci_9 (Or.inl rfl) rfl lf_X9_250 dX9_backward_153 (fun h25 H1 locs1 hF S => ?_)
        exact w_X9_backward_156 X hr hk_54 ih S (lv_sub hl [0, 1, 2, 3, 4, 5, 6] rfl) hF
def f_X9_backward_54  : Nat → Option Nat → Int32 → Int32 → UInt64 → UInt64 → Int32 → Hp → Option (Unit × Hp)
  | 0, _, _, _, _, _, _, _ => none
  | n + 1, v0, v1, v2, v3, v5, v7, h => if 6 ≤ v7 then
      some ((), h)
    else
      (fop (FP.dadd v3 v5)).bind fun x2 =>
      (getR h v0 9 49).bind fun x3 =>
      (getR h v0 9 53).bind fun x4 =>
      (ab_ck h v0 (9, 0)).bind fun a8 =>
      bnd (f_X9_rates a8 v1 x2 x3 x4 h) fun _ h6 =>
      (putI h6 v0 9 61 0).bind fun h10 =>
      f_X9_backward_86 (f_X9_backward_54 n) fuelN v0 v1 v2 v3 v5 v7 0 h10
set_option maxHeartbeats 4000000 in
set_option maxRecDepth 100000 in
theorem w_X9_backward_54 {p : Program} {l : Launch} {e : Env} {s : State} {m : MethodId} {args : Array Value} {below : List Frame} {meth : Method} {c : Code} {D : va_G} {cA : Nat → ClassId} {sz : Nat}  {hh : Hp}  (X : ab_X p s m args meth c cX9_backward 9 RX9 D cA sz) (hr : meth.sig.returnType = none)  (n : Nat) : ∀ (v0 : Option Nat) (v1 : Int32) (v2 : Int32) (v3 : UInt64) (v5 : UInt64) (v7 : Int32) (h : Hp) (H : Heap) (locs : List Loc) (ls : Array Slot), ab_H D cA sz h s H locs → lv_has ls 9 [(0, va_rf v0), (1, .int v1), (2, .int v2), (3, .double v3), (5, .double v5), (7, .int v7)] → f_X9_backward_54 n v0 v1 v2 v3 v5 v7 h = some ((), hh) → W p l e (ab_rm 6 0 0) s m args below meth c H locs 0 0 (MQ below (ab_Q D cA sz none hh) args s 0 0 (fun q => sz ≤ q)) (F0 m 54 ls []) := by
  induction n with
  | zero => intro v0 v1 v2 v3 v5 v7 h H locs ls S hl hF; cases hF
  | succ n ih =>
    intro v0 v1 v2 v3 v5 v7 h H locs ls S hl hF
    rw [f_X9_backward_54] at hF
    refine lv_iload X.1 X.2.1 dX9_backward_54 (lv_at hl 5 rfl) ?_
    refine lv_bipush (v := 6) X.1 X.2.1 dX9_backward_56 (by decide) ?_
    refine lv_icmp_ge (tgt := 197) X.1 X.2.1 dX9_backward_58 (by decide) (fun c1 => ?_) (fun c1 => ?_)
    · have hF := ab_pos c1 hF
      exact ab_vret X S hr hF dX9_backward_197
    · have hF := ab_neg c1 hF
      refine ab_aload_n X dX9_backward_61 rfl (lv_at hl 0 rfl) ?_
      refine lv_iload_n X.1 X.2.1 dX9_backward_62 rfl (lv_at hl 1 rfl) ?_
      refine lv_dload_n X.1 X.2.1 dX9_backward_63 rfl (lv_at hl 3 rfl) ?_
      refine lv_dload X.1 X.2.1 dX9_backward_64 (lv_at hl 4 rfl) ?_
      obtain ⟨x2, ev, ne, hF⟩ := ab_fopx hF
      refine lv_dadd X.1 X.2.1 dX9_backward_66 ne ?_
      rw [ev]
      refine ab_aload_n X dX9_backward_67 rfl (lv_at hl 0 rfl) ?_
      refine ab_getR X S hF fi_9_49 lf_X9_152 dX9_backward_68 (fun x3 hF => ?_)
      refine ab_aload_n X dX9_backward_71 rfl (lv_at hl 0 rfl) ?_
      refine ab_getR X S hF fi_9_53 lf_X9_164 dX9_backward_72 (fun x4 hF => ?_)
      obtain ⟨a8, e9, hF⟩ := bind_out hF
      obtain ⟨x5, h6, e7, hF⟩ := bnd_out hF
      refine ab_callVv X S e9 (c_X9_rates l D cA sz e7) rfl (by decide) mi_X9_rates lm_X9_254 li_yX9_rates ls_yX9_rates (As := [.int v1, .double x2, va_rf x3, va_rf x4]) (rest := []) rfl ⟨by decide, by decide⟩ ⟨(by decide), (by decide)⟩ hl.1 rfl (by simp [ab_cat, ab_cI, ab_cJ, ab_cD, ab_cF]) dX9_backward_75 (fun H1 locs1 S => ?_)
      refine ab_aload_n X dX9_backward_78 rfl (lv_at hl 0 rfl) ?_
      refine lv_iconst (v := 0) X.1 X.2.1 dX9_backward_79 (by decide) ?_
      refine ab_putI X S hF fi_9_61 ci_9 (Or.inl rfl) rfl lf_X9_250 dX9_backward_80 (fun h10 H1 locs1 hF S => ?_)
      refine lv_iconst (v := 0) X.1 X.2.1 dX9_backward_83 (by decide) ?_
      refine lv_istore (lv' := [(8, .int 0), (0, va_rf v0), (1, .int v1), (2, .int v2), (3, .double v3), (5, .double v5), (7, .int v7)]) X.1 X.2.1 dX9_backward_84 hl (by decide) (by simp [ab_cat, ab_cI, ab_cJ, ab_cD, ab_cF]) (fun ls hl => ?_)
      exact w_X9_backward_86 X hr ih fuelN _ _ _ _ _ _ _ _ _ _ _ S (lv_sub hl [1, 2, 3, 4, 5, 6, 0] rfl) hF
def f_X9_backward_3  : Nat → Option Nat → Int32 → Int32 → UInt64 → UInt64 → Int32 → Hp → Option (Unit × Hp)
  | 0, _, _, _, _, _, _, _ => none
  | n + 1, v0, v1, v2, v3, v5, v7, h => if v2 ≤ v7 then
      f_X9_backward_54 fuelN v0 v1 v2 v3 v5 0 h
    else
      (getR h v0 9 49).bind fun x2 =>
      (getR h v0 9 47).bind fun x3 =>
      (aldD h x3 v7).bind fun x4 =>
      (getR h v0 9 52).bind fun x5 =>
      (aldD h x5 v7).bind fun x6 =>
      bnd (f_X9_times v5 x6 h) fun x7 h8 =>
      bnd (f_X9_plus x4 x7 h8) fun x10 h11 =>
      (ab_ck h11 v0 (9, 0)).bind fun a16 =>
      bnd (f_X9_put a16 v1 v7 x10 h11) fun x13 h14 =>
      (astD h14 x2 v7 x13).bind fun h18 =>
      f_X9_backward_3 n v0 v1 v2 v3 v5 (v7 + 1) h18
set_option maxHeartbeats 4000000 in
set_option maxRecDepth 100000 in
theorem w_X9_backward_3 {p : Program} {l : Launch} {e : Env} {s : State} {m : MethodId} {args : Array Value} {below : List Frame} {meth : Method} {c : Code} {D : va_G} {cA : Nat → ClassId} {sz : Nat}  {hh : Hp}  (X : ab_X p s m args meth c cX9_backward 9 RX9 D cA sz) (hr : meth.sig.returnType = none)  (n : Nat) : ∀ (v0 : Option Nat) (v1 : Int32) (v2 : Int32) (v3 : UInt64) (v5 : UInt64) (v7 : Int32) (h : Hp) (H : Heap) (locs : List Loc) (ls : Array Slot), ab_H D cA sz h s H locs → lv_has ls 9 [(0, va_rf v0), (1, .int v1), (2, .int v2), (3, .double v3), (5, .double v5), (7, .int v7)] → f_X9_backward_3 n v0 v1 v2 v3 v5 v7 h = some ((), hh) → W p l e (ab_rm 6 0 0) s m args below meth c H locs 0 0 (MQ below (ab_Q D cA sz none hh) args s 0 0 (fun q => sz ≤ q)) (F0 m 3 ls []) := by
  induction n with
  | zero => intro v0 v1 v2 v3 v5 v7 h H locs ls S hl hF; cases hF
  | succ n ih =>
    intro v0 v1 v2 v3 v5 v7 h H locs ls S hl hF
    rw [f_X9_backward_3] at hF
    refine lv_iload X.1 X.2.1 dX9_backward_3 (lv_at hl 5 rfl) ?_
    refine lv_iload_n X.1 X.2.1 dX9_backward_5 rfl (lv_at hl 2 rfl) ?_
    refine lv_icmp_ge (tgt := 51) X.1 X.2.1 dX9_backward_6 (by decide) (fun c1 => ?_) (fun c1 => ?_)
    · have hF := ab_pos c1 hF
      refine lv_iconst (v := 0) X.1 X.2.1 dX9_backward_51 (by decide) ?_
      refine lv_istore (lv' := [(7, .int 0), (0, va_rf v0), (1, .int v1), (2, .int v2), (3, .double v3), (5, .double v5)]) X.1 X.2.1 dX9_backward_52 hl (by decide) (by simp [ab_cat, ab_cI, ab_cJ, ab_cD, ab_cF]) (fun ls hl => ?_)
      exact w_X9_backward_54 X hr  fuelN _ _ _ _ _ _ _ _ _ _ S (lv_sub hl [1, 2, 3, 4, 5, 0] rfl) hF
    · have hF := ab_neg c1 hF
      refine ab_aload_n X dX9_backward_9 rfl (lv_at hl 0 rfl) ?_
      refine ab_getR X S hF fi_9_49 lf_X9_152 dX9_backward_10 (fun x2 hF => ?_)
      refine lv_iload X.1 X.2.1 dX9_backward_13 (lv_at hl 5 rfl) ?_
      refine ab_aload_n X dX9_backward_15 rfl (lv_at hl 0 rfl) ?_
      refine lv_iload_n X.1 X.2.1 dX9_backward_16 rfl (lv_at hl 1 rfl) ?_
      refine lv_iload X.1 X.2.1 dX9_backward_17 (lv_at hl 5 rfl) ?_
      refine ab_aload_n X dX9_backward_19 rfl (lv_at hl 0 rfl) ?_
      refine ab_getR X S hF fi_9_47 lf_X9_146 dX9_backward_20 (fun x3 hF => ?_)
      refine lv_iload X.1 X.2.1 dX9_backward_23 (lv_at hl 5 rfl) ?_
      refine ab_aldD X S hF dX9_backward_25 (fun x4 hF => ?_)
      refine lv_dload X.1 X.2.1 dX9_backward_26 (lv_at hl 4 rfl) ?_
      refine ab_aload_n X dX9_backward_28 rfl (lv_at hl 0 rfl) ?_
      refine ab_getR X S hF fi_9_52 lf_X9_161 dX9_backward_29 (fun x5 hF => ?_)
      refine lv_iload X.1 X.2.1 dX9_backward_32 (lv_at hl 5 rfl) ?_
      refine ab_aldD X S hF dX9_backward_34 (fun x6 hF => ?_)
      obtain ⟨x7, h8, e9, hF⟩ := bnd_out hF
      refine ab_callSd X S (c_X9_times l D cA sz e9) mi_X9_times lm_X9_211 lt_yX9_times (As := [.double v5, .double x6]) (rest := [.double x4, .int v7, .int v1, va_rf v0, .int v7, va_rf x2]) rfl ⟨by decide, by decide⟩ ⟨(by decide), (by decide)⟩ hl.1 rfl (by simp [ab_cat, ab_cI, ab_cJ, ab_cD, ab_cF]) dX9_backward_35 (fun H1 locs1 S => ?_)
      obtain ⟨x10, h11, e12, hF⟩ := bnd_out hF
      refine ab_callSd X S (c_X9_plus l D cA sz e12) mi_X9_plus lm_X9_214 lt_yX9_plus (As := [.double x4, .double x7]) (rest := [.int v7, .int v1, va_rf v0, .int v7, va_rf x2]) rfl ⟨by decide, by decide⟩ ⟨(by decide), (by decide)⟩ hl.1 rfl (by simp [ab_cat, ab_cI, ab_cJ, ab_cD, ab_cF]) dX9_backward_38 (fun H1 locs1 S => ?_)
      obtain ⟨a16, e17, hF⟩ := bind_out hF
      obtain ⟨x13, h14, e15, hF⟩ := bnd_out hF
      refine ab_callVd X S e17 (c_X9_put l D cA sz e15) rfl (by decide) mi_X9_put lm_X9_281 li_yX9_put ls_yX9_put (As := [.int v1, .int v7, .double x10]) (rest := [.int v7, va_rf x2]) rfl ⟨by decide, by decide⟩ ⟨(by decide), (by decide)⟩ hl.1 rfl (by simp [ab_cat, ab_cI, ab_cJ, ab_cD, ab_cF]) dX9_backward_41 (fun H1 locs1 S => ?_)
      refine ab_astD X S hF dX9_backward_44 (fun h18 H1 locs1 hF S => ?_)
      refine lv_iinc (v := v7 + 1) (lv' := [(7, .int (v7 + 1)), (0, va_rf v0), (1, .int v1), (2, .int v2), (3, .double v3), (5, .double v5)]) X.1 X.2.1 dX9_backward_45 hl (k := 5) rfl (by rfl) (by decide) (by simp [ab_cat, ab_cI, ab_cJ, ab_cD, ab_cF]) (fun ls hl => ?_)
      refine lv_goto (tgt := 3) X.1 X.2.1 dX9_backward_48 (by decide) ?_
      exact ih _ _ _ _ _ _ _ _ _ _ S (lv_sub hl [1, 2, 3, 4, 5, 0] rfl) hF
def f_X9_backward (this : Nat) (p0 : Int32) (p1 : Int32) (p2 : UInt64) (p3 : UInt64) (h : Hp) : Option (Unit × Hp) :=
  f_X9_backward_3 fuelN (some this) p0 p1 p2 p3 0 h
theorem mi_X9_backward : ab_MI yX9_backward cX9_backward 9 none 4 := ⟨lc_yX9_backward, lz_RX9, by decide, by decide, by decide +kernel⟩
set_option maxHeartbeats 4000000 in
set_option maxRecDepth 100000 in
theorem c_X9_backward (l : Launch) (D : va_G) (cA : Nat → ClassId) (sz : Nat) {this : Nat} {p0 : Int32} {p1 : Int32} {p2 : UInt64} {p3 : UInt64} {h hh : Hp}  (hF : f_X9_backward this p0 p1 p2 p3 h = some ((), hh)) : ab_C l D cA sz yX9_backward cX9_backward 9 none 6 0 0 [.ref this, .int p0, .int p1, .double p2, .double p3] h none hh := by
  refine Met.ofW (cc := cX9_backward) (maxL := 9) (ret := none) (by decide) rfl ?_
  intro p e s m args below meth c s₁ B hml hv
  obtain ⟨rfl, hT, hR⟩ := hv
  have X : ab_X p s m _ meth c cX9_backward 9 RX9 D cA sz := (ab_enter B hml hT hR).1
  have S := (ab_enter B hml hT hR).2
  have hr := B.returns
  obtain ⟨ls, hls, hl⟩ := ab_entry m [.ref this, .int p0, .int p1, .double p2, .double p3] 9 (lv := [(0, .ref this), (1, .int p0), (2, .int p1), (3, .double p2), (5, .double p3)]) (by simp [lg_sl, ab_cat, ab_cI, ab_cJ, ab_cD, ab_cF, ab_cA]) (by simp [lv_args, ab_cat, ab_cI, ab_cJ, ab_cD, ab_cF, ab_cA])
  rw [hls]
  have hl : lv_has ls 9 [(0, va_rf (some this)), (1, .int p0), (2, .int p1), (3, .double p2), (5, .double p3)] := hl
  unfold f_X9_backward at hF
  show W p l e (ab_rm 6 0 0) s m _ below meth c s.heap [] 0 0 _ _
  refine lv_iconst (v := 0) X.1 X.2.1 dX9_backward_0 (by decide) ?_
  refine lv_istore (lv' := [(7, .int 0), (0, va_rf (some this)), (1, .int p0), (2, .int p1), (3, .double p2), (5, .double p3)]) X.1 X.2.1 dX9_backward_1 hl (by decide) (by simp [ab_cat, ab_cI, ab_cJ, ab_cD, ab_cF]) (fun ls hl => ?_)
  exact w_X9_backward_3 X hr  fuelN _ _ _ _ _ _ _ _ _ _ S (lv_sub hl [1, 2, 3, 4, 5, 0] rfl) hF
def f_X9_leap_187  : Nat → Option Nat → Int32 → Int32 → UInt64 → Int32 → Hp → Option (Unit × Hp)
  | 0, _, _, _, _, _, _ => none
  | n + 1, v0, v1, v2, v7, v10, h => if v2 ≤ v10 then
      some ((), h)
    else
      (getR h v0 9 49).bind fun x2 =>
      (getR h v0 9 48).bind fun x3 =>
      (aldD h x3 v10).bind fun x4 =>
      (getR h v0 9 54).bind fun x5 =>
      (aldD h x5 v10).bind fun x6 =>
      bnd (f_X9_times v7 x6 h) fun x7 h8 =>
      bnd (f_X9_plus x4 x7 h8) fun x10 h11 =>
      (ab_ck h11 v0 (9, 0)).bind fun a16 =>
      bnd (f_X9_put a16 v1 v10 x10 h11) fun x13 h14 =>
      (astD h14 x2 v10 x13).bind fun h18 =>
      f_X9_leap_187 n v0 v1 v2 v7 (v10 + 1) h18
set_option maxHeartbeats 4000000 in
set_option maxRecDepth 100000 in
theorem w_X9_leap_187 {p : Program} {l : Launch} {e : Env} {s : State} {m : MethodId} {args : Array Value} {below : List Frame} {meth : Method} {c : Code} {D : va_G} {cA : Nat → ClassId} {sz : Nat}  {hh : Hp}  (X : ab_X p s m args meth c cX9_leap 11 RX9 D cA sz) (hr : meth.sig.returnType = none)  (n : Nat) : ∀ (v0 : Option Nat) (v1 : Int32) (v2 : Int32) (v7 : UInt64) (v10 : Int32) (h : Hp) (H : Heap) (locs : List Loc) (ls : Array Slot), ab_H D cA sz h s H locs → lv_has ls 11 [(0, va_rf v0), (1, .int v1), (2, .int v2), (7, .double v7), (10, .int v10)] → f_X9_leap_187 n v0 v1 v2 v7 v10 h = some ((), hh) → W p l e (ab_rm 6 0 0) s m args below meth c H locs 0 0 (MQ below (ab_Q D cA sz none hh) args s 0 0 (fun q => sz ≤ q)) (F0 m 187 ls []) := by
  induction n with
  | zero => intro v0 v1 v2 v7 v10 h H locs ls S hl hF; cases hF
  | succ n ih =>
    intro v0 v1 v2 v7 v10 h H locs ls S hl hF
    rw [f_X9_leap_187] at hF
    refine lv_iload X.1 X.2.1 dX9_leap_187 (lv_at hl 4 rfl) ?_
    refine lv_iload_n X.1 X.2.1 dX9_leap_189 rfl (lv_at hl 2 rfl) ?_
    refine lv_icmp_ge (tgt := 235) X.1 X.2.1 dX9_leap_190 (by decide) (fun c1 => ?_) (fun c1 => ?_)
    · have hF := ab_pos c1 hF
      exact ab_vret X S hr hF dX9_leap_235
    · have hF := ab_neg c1 hF
      refine ab_aload_n X dX9_leap_193 rfl (lv_at hl 0 rfl) ?_
      refine ab_getR X S hF fi_9_49 lf_X9_152 dX9_leap_194 (fun x2 hF => ?_)
      refine lv_iload X.1 X.2.1 dX9_leap_197 (lv_at hl 4 rfl) ?_
      refine ab_aload_n X dX9_leap_199 rfl (lv_at hl 0 rfl) ?_
      refine lv_iload_n X.1 X.2.1 dX9_leap_200 rfl (lv_at hl 1 rfl) ?_
      refine lv_iload X.1 X.2.1 dX9_leap_201 (lv_at hl 4 rfl) ?_
      refine ab_aload_n X dX9_leap_203 rfl (lv_at hl 0 rfl) ?_
      refine ab_getR X S hF fi_9_48 lf_X9_149 dX9_leap_204 (fun x3 hF => ?_)
      refine lv_iload X.1 X.2.1 dX9_leap_207 (lv_at hl 4 rfl) ?_
      refine ab_aldD X S hF dX9_leap_209 (fun x4 hF => ?_)
      refine lv_dload X.1 X.2.1 dX9_leap_210 (lv_at hl 3 rfl) ?_
      refine ab_aload_n X dX9_leap_212 rfl (lv_at hl 0 rfl) ?_
      refine ab_getR X S hF fi_9_54 lf_X9_167 dX9_leap_213 (fun x5 hF => ?_)
      refine lv_iload X.1 X.2.1 dX9_leap_216 (lv_at hl 4 rfl) ?_
      refine ab_aldD X S hF dX9_leap_218 (fun x6 hF => ?_)
      obtain ⟨x7, h8, e9, hF⟩ := bnd_out hF
      refine ab_callSd X S (c_X9_times l D cA sz e9) mi_X9_times lm_X9_211 lt_yX9_times (As := [.double v7, .double x6]) (rest := [.double x4, .int v10, .int v1, va_rf v0, .int v10, va_rf x2]) rfl ⟨by decide, by decide⟩ ⟨(by decide), (by decide)⟩ hl.1 rfl (by simp [ab_cat, ab_cI, ab_cJ, ab_cD, ab_cF]) dX9_leap_219 (fun H1 locs1 S => ?_)
      obtain ⟨x10, h11, e12, hF⟩ := bnd_out hF
      refine ab_callSd X S (c_X9_plus l D cA sz e12) mi_X9_plus lm_X9_214 lt_yX9_plus (As := [.double x4, .double x7]) (rest := [.int v10, .int v1, va_rf v0, .int v10, va_rf x2]) rfl ⟨by decide, by decide⟩ ⟨(by decide), (by decide)⟩ hl.1 rfl (by simp [ab_cat, ab_cI, ab_cJ, ab_cD, ab_cF]) dX9_leap_222 (fun H1 locs1 S => ?_)
      obtain ⟨a16, e17, hF⟩ := bind_out hF
      obtain ⟨x13, h14, e15, hF⟩ := bnd_out hF
      refine ab_callVd X S e17 (c_X9_put l D cA sz e15) rfl (by decide) mi_X9_put lm_X9_281 li_yX9_put ls_yX9_put (As := [.int v1, .int v10, .double x10]) (rest := [.int v10, va_rf x2]) rfl ⟨by decide, by decide⟩ ⟨(by decide), (by decide)⟩ hl.1 rfl (by simp [ab_cat, ab_cI, ab_cJ, ab_cD, ab_cF]) dX9_leap_225 (fun H1 locs1 S => ?_)
      refine ab_astD X S hF dX9_leap_228 (fun h18 H1 locs1 hF S => ?_)
      refine lv_iinc (v := v10 + 1) (lv' := [(10, .int (v10 + 1)), (0, va_rf v0), (1, .int v1), (2, .int v2), (7, .double v7)]) X.1 X.2.1 dX9_leap_229 hl (k := 4) rfl (by rfl) (by decide) (by simp [ab_cat, ab_cI, ab_cJ, ab_cD, ab_cF]) (fun ls hl => ?_)
      refine lv_goto (tgt := 187) X.1 X.2.1 dX9_leap_232 (by decide) ?_
      exact ih _ _ _ _ _ _ _ _ _ S (lv_sub hl [1, 2, 3, 4, 0] rfl) hF
def f_X9_leap_159 (k_101 : Option Nat → Int32 → Int32 → UInt64 → UInt64 → UInt64 → Int32 → Int32 → Hp → Option (Unit × Hp)) (v0 : Option Nat) (v1 : Int32) (v2 : Int32) (v3 : UInt64) (v5 : UInt64) (v7 : UInt64) (v9 : Int32) (v10 : Int32) (u0 : UInt64) (u1 : Int32) (u2 : Option Nat) (h : Hp) : Option (Unit × Hp) :=
  (astD h u2 u1 u0).bind fun h1 =>
  k_101 v0 v1 v2 v3 v5 v7 v9 (v10 + 1) h1
set_option maxHeartbeats 4000000 in
set_option maxRecDepth 100000 in
theorem w_X9_leap_159 {p : Program} {l : Launch} {e : Env} {s : State} {m : MethodId} {args : Array Value} {below : List Frame} {meth : Method} {c : Code} {D : va_G} {cA : Nat → ClassId} {sz : Nat}  {hh : Hp} {k_101 : Option Nat → Int32 → Int32 → UInt64 → UInt64 → UInt64 → Int32 → Int32 → Hp → Option (Unit × Hp)} (X : ab_X p s m args meth c cX9_leap 11 RX9 D cA sz) (hr : meth.sig.returnType = none) (hk_101 : ∀ (v0 : Option Nat) (v1 : Int32) (v2 : Int32) (v3 : UInt64) (v5 : UInt64) (v7 : UInt64) (v9 : Int32) (v10 : Int32) (h : Hp) (H : Heap) (locs : List Loc) (ls : Array Slot), ab_H D cA sz h s H locs → lv_has ls 11 [(0, va_rf v0), (1, .int v1), (2, .int v2), (3, .double v3), (5, .double v5), (7, .double v7), (9, .int v9), (10, .int v10)] → k_101 v0 v1 v2 v3 v5 v7 v9 v10 h = some ((), hh) → W p l e (ab_rm 6 0 0) s m args below meth c H locs 0 0 (MQ below (ab_Q D cA sz none hh) args s 0 0 (fun q => sz ≤ q)) (F0 m 101 ls [])) {H : Heap} {locs : List Loc} {ls : Array Slot} {v0 : Option Nat} {v1 : Int32} {v2 : Int32} {v3 : UInt64} {v5 : UInt64} {v7 : UInt64} {v9 : Int32} {v10 : Int32} {u0 : UInt64} {u1 : Int32} {u2 : Option Nat} {h : Hp} (S : ab_H D cA sz h s H locs) (hl : lv_has ls 11 [(0, va_rf v0), (1, .int v1), (2, .int v2), (3, .double v3), (5, .double v5), (7, .double v7), (9, .int v9), (10, .int v10)]) (hF : f_X9_leap_159 k_101 v0 v1 v2 v3 v5 v7 v9 v10 u0 u1 u2 h = some ((), hh)) : W p l e (ab_rm 6 0 0) s m args below meth c H locs 0 0 (MQ below (ab_Q D cA sz none hh) args s 0 0 (fun q => sz ≤ q)) (F0 m 159 ls [.double u0, .int u1, va_rf u2]) := by
  unfold f_X9_leap_159 at hF
  refine ab_astD X S hF dX9_leap_159 (fun h1 H1 locs1 hF S => ?_)
  refine lv_iinc (v := v10 + 1) (lv' := [(10, .int (v10 + 1)), (0, va_rf v0), (1, .int v1), (2, .int v2), (3, .double v3), (5, .double v5), (7, .double v7), (9, .int v9)]) X.1 X.2.1 dX9_leap_160 hl (k := 7) rfl (by rfl) (by decide) (by simp [ab_cat, ab_cI, ab_cJ, ab_cD, ab_cF]) (fun ls hl => ?_)
  refine lv_goto (tgt := 101) X.1 X.2.1 dX9_leap_163 (by decide) ?_
  exact hk_101 _ _ _ _ _ _ _ _ _ _ _ _ S (lv_sub hl [1, 2, 3, 4, 5, 6, 7, 0] rfl) hF
def f_X9_leap_101  : Nat → Option Nat → Int32 → Int32 → UInt64 → UInt64 → UInt64 → Int32 → Int32 → Hp → Option (Unit × Hp)
  | 0, _, _, _, _, _, _, _, _, _ => none
  | n + 1, v0, v1, v2, v3, v5, v7, v9, v10, h => if v2 ≤ v10 then
      (fop (FP.dadd v3 v5)).bind fun x2 =>
      (getR h v0 9 49).bind fun x3 =>
      (getR h v0 9 54).bind fun x4 =>
      (ab_ck h v0 (9, 0)).bind fun a8 =>
      bnd (f_X9_rates a8 v1 x2 x3 x4 h) fun _ h6 =>
      f_X9_leap_187 fuelN v0 v1 v2 v7 v9 h6
    else
      (getR h v0 9 49).bind fun x10 =>
      if v9 ≤ v10 then
        (getR h v0 9 48).bind fun x12 =>
        (aldD h x12 v10).bind fun x13 =>
        f_X9_leap_159 (f_X9_leap_101 n) v0 v1 v2 v3 v5 v7 v9 v10 x13 v10 x10 h
      else
        (getR h v0 9 47).bind fun x14 =>
        (aldD h x14 v10).bind fun x15 =>
        (getR h v0 9 53).bind fun x16 =>
        (aldD h x16 v10).bind fun x17 =>
        bnd (f_X9_times v5 x17 h) fun x18 h19 =>
        bnd (f_X9_plus x15 x18 h19) fun x21 h22 =>
        (ab_ck h22 v0 (9, 0)).bind fun a27 =>
        bnd (f_X9_put a27 v1 v10 x21 h22) fun x24 h25 =>
        f_X9_leap_159 (f_X9_leap_101 n) v0 v1 v2 v3 v5 v7 v9 v10 x24 v10 x10 h25
set_option maxHeartbeats 4000000 in
set_option maxRecDepth 100000 in
theorem w_X9_leap_101 {p : Program} {l : Launch} {e : Env} {s : State} {m : MethodId} {args : Array Value} {below : List Frame} {meth : Method} {c : Code} {D : va_G} {cA : Nat → ClassId} {sz : Nat}  {hh : Hp}  (X : ab_X p s m args meth c cX9_leap 11 RX9 D cA sz) (hr : meth.sig.returnType = none)  (n : Nat) : ∀ (v0 : Option Nat) (v1 : Int32) (v2 : Int32) (v3 : UInt64) (v5 : UInt64) (v7 : UInt64) (v9 : Int32) (v10 : Int32) (h : Hp) (H : Heap) (locs : List Loc) (ls : Array Slot), ab_H D cA sz h s H locs → lv_has ls 11 [(0, va_rf v0), (1, .int v1), (2, .int v2), (3, .double v3), (5, .double v5), (7, .double v7), (9, .int v9), (10, .int v10)] → f_X9_leap_101 n v0 v1 v2 v3 v5 v7 v9 v10 h = some ((), hh) → W p l e (ab_rm 6 0 0) s m args below meth c H locs 0 0 (MQ below (ab_Q D cA sz none hh) args s 0 0 (fun q => sz ≤ q)) (F0 m 101 ls []) := by
  induction n with
  | zero => intro v0 v1 v2 v3 v5 v7 v9 v10 h H locs ls S hl hF; cases hF
  | succ n ih =>
    intro v0 v1 v2 v3 v5 v7 v9 v10 h H locs ls S hl hF
    rw [f_X9_leap_101] at hF
    refine lv_iload X.1 X.2.1 dX9_leap_101 (lv_at hl 7 rfl) ?_
    refine lv_iload_n X.1 X.2.1 dX9_leap_103 rfl (lv_at hl 2 rfl) ?_
    refine lv_icmp_ge (tgt := 166) X.1 X.2.1 dX9_leap_104 (by decide) (fun c1 => ?_) (fun c1 => ?_)
    · have hF := ab_pos c1 hF
      refine ab_aload_n X dX9_leap_166 rfl (lv_at hl 0 rfl) ?_
      refine lv_iload_n X.1 X.2.1 dX9_leap_167 rfl (lv_at hl 1 rfl) ?_
      refine lv_dload_n X.1 X.2.1 dX9_leap_168 rfl (lv_at hl 3 rfl) ?_
      refine lv_dload X.1 X.2.1 dX9_leap_169 (lv_at hl 4 rfl) ?_
      obtain ⟨x2, ev, ne, hF⟩ := ab_fopx hF
      refine lv_dadd X.1 X.2.1 dX9_leap_171 ne ?_
      rw [ev]
      refine ab_aload_n X dX9_leap_172 rfl (lv_at hl 0 rfl) ?_
      refine ab_getR X S hF fi_9_49 lf_X9_152 dX9_leap_173 (fun x3 hF => ?_)
      refine ab_aload_n X dX9_leap_176 rfl (lv_at hl 0 rfl) ?_
      refine ab_getR X S hF fi_9_54 lf_X9_167 dX9_leap_177 (fun x4 hF => ?_)
      obtain ⟨a8, e9, hF⟩ := bind_out hF
      obtain ⟨x5, h6, e7, hF⟩ := bnd_out hF
      refine ab_callVv X S e9 (c_X9_rates l D cA sz e7) rfl (by decide) mi_X9_rates lm_X9_254 li_yX9_rates ls_yX9_rates (As := [.int v1, .double x2, va_rf x3, va_rf x4]) (rest := []) rfl ⟨by decide, by decide⟩ ⟨(by decide), (by decide)⟩ hl.1 rfl (by simp [ab_cat, ab_cI, ab_cJ, ab_cD, ab_cF]) dX9_leap_180 (fun H1 locs1 S => ?_)
      refine lv_iload X.1 X.2.1 dX9_leap_183 (lv_at hl 6 rfl) ?_
      refine lv_istore (lv' := [(10, .int v9), (0, va_rf v0), (1, .int v1), (2, .int v2), (3, .double v3), (5, .double v5), (7, .double v7), (9, .int v9)]) X.1 X.2.1 dX9_leap_185 hl (by decide) (by simp [ab_cat, ab_cI, ab_cJ, ab_cD, ab_cF]) (fun ls hl => ?_)
      exact w_X9_leap_187 X hr  fuelN _ _ _ _ _ _ _ _ _ S (lv_sub hl [1, 2, 3, 6, 0] rfl) hF
    · have hF := ab_neg c1 hF
      refine ab_aload_n X dX9_leap_107 rfl (lv_at hl 0 rfl) ?_
      refine ab_getR X S hF fi_9_49 lf_X9_152 dX9_leap_108 (fun x10 hF => ?_)
      refine lv_iload X.1 X.2.1 dX9_leap_111 (lv_at hl 7 rfl) ?_
      refine lv_iload X.1 X.2.1 dX9_leap_113 (lv_at hl 7 rfl) ?_
      refine lv_iload X.1 X.2.1 dX9_leap_115 (lv_at hl 6 rfl) ?_
      refine lv_icmp_ge (tgt := 152) X.1 X.2.1 dX9_leap_117 (by decide) (fun c11 => ?_) (fun c11 => ?_)
      · have hF := ab_pos c11 hF
        refine ab_aload_n X dX9_leap_152 rfl (lv_at hl 0 rfl) ?_
        refine ab_getR X S hF fi_9_48 lf_X9_149 dX9_leap_153 (fun x12 hF => ?_)
        refine lv_iload X.1 X.2.1 dX9_leap_156 (lv_at hl 7 rfl) ?_
        refine ab_aldD X S hF dX9_leap_158 (fun x13 hF => ?_)
        exact w_X9_leap_159 X hr ih S (lv_sub hl [0, 1, 2, 3, 4, 5, 6, 7] rfl) hF
      · have hF := ab_neg c11 hF
        refine ab_aload_n X dX9_leap_120 rfl (lv_at hl 0 rfl) ?_
        refine lv_iload_n X.1 X.2.1 dX9_leap_121 rfl (lv_at hl 1 rfl) ?_
        refine lv_iload X.1 X.2.1 dX9_leap_122 (lv_at hl 7 rfl) ?_
        refine ab_aload_n X dX9_leap_124 rfl (lv_at hl 0 rfl) ?_
        refine ab_getR X S hF fi_9_47 lf_X9_146 dX9_leap_125 (fun x14 hF => ?_)
        refine lv_iload X.1 X.2.1 dX9_leap_128 (lv_at hl 7 rfl) ?_
        refine ab_aldD X S hF dX9_leap_130 (fun x15 hF => ?_)
        refine lv_dload X.1 X.2.1 dX9_leap_131 (lv_at hl 4 rfl) ?_
        refine ab_aload_n X dX9_leap_133 rfl (lv_at hl 0 rfl) ?_
        refine ab_getR X S hF fi_9_53 lf_X9_164 dX9_leap_134 (fun x16 hF => ?_)
        refine lv_iload X.1 X.2.1 dX9_leap_137 (lv_at hl 7 rfl) ?_
        refine ab_aldD X S hF dX9_leap_139 (fun x17 hF => ?_)
        obtain ⟨x18, h19, e20, hF⟩ := bnd_out hF
        refine ab_callSd X S (c_X9_times l D cA sz e20) mi_X9_times lm_X9_211 lt_yX9_times (As := [.double v5, .double x17]) (rest := [.double x15, .int v10, .int v1, va_rf v0, .int v10, va_rf x10]) rfl ⟨by decide, by decide⟩ ⟨(by decide), (by decide)⟩ hl.1 rfl (by simp [ab_cat, ab_cI, ab_cJ, ab_cD, ab_cF]) dX9_leap_140 (fun H1 locs1 S => ?_)
        obtain ⟨x21, h22, e23, hF⟩ := bnd_out hF
        refine ab_callSd X S (c_X9_plus l D cA sz e23) mi_X9_plus lm_X9_214 lt_yX9_plus (As := [.double x15, .double x18]) (rest := [.int v10, .int v1, va_rf v0, .int v10, va_rf x10]) rfl ⟨by decide, by decide⟩ ⟨(by decide), (by decide)⟩ hl.1 rfl (by simp [ab_cat, ab_cI, ab_cJ, ab_cD, ab_cF]) dX9_leap_143 (fun H1 locs1 S => ?_)
        obtain ⟨a27, e28, hF⟩ := bind_out hF
        obtain ⟨x24, h25, e26, hF⟩ := bnd_out hF
        refine ab_callVd X S e28 (c_X9_put l D cA sz e26) rfl (by decide) mi_X9_put lm_X9_281 li_yX9_put ls_yX9_put (As := [.int v1, .int v10, .double x21]) (rest := [.int v10, va_rf x10]) rfl ⟨by decide, by decide⟩ ⟨(by decide), (by decide)⟩ hl.1 rfl (by simp [ab_cat, ab_cI, ab_cJ, ab_cD, ab_cF]) dX9_leap_146 (fun H1 locs1 S => ?_)
        refine lv_goto (tgt := 159) X.1 X.2.1 dX9_leap_149 (by decide) ?_
        exact w_X9_leap_159 X hr ih S (lv_sub hl [0, 1, 2, 3, 4, 5, 6, 7] rfl) hF
def f_X9_leap_74 (k_16 : Option Nat → Int32 → Int32 → UInt64 → UInt64 → UInt64 → Int32 → Int32 → Hp → Option (Unit × Hp)) (v0 : Option Nat) (v1 : Int32) (v2 : Int32) (v3 : UInt64) (v5 : UInt64) (v7 : UInt64) (v9 : Int32) (v10 : Int32) (u0 : UInt64) (u1 : Int32) (u2 : Option Nat) (h : Hp) : Option (Unit × Hp) :=
  (astD h u2 u1 u0).bind fun h1 =>
  k_16 v0 v1 v2 v3 v5 v7 v9 (v10 + 1) h1
set_option maxHeartbeats 4000000 in
set_option maxRecDepth 100000 in
theorem w_X9_leap_74 {p : Program} {l : Launch} {e : Env} {s : State} {m : MethodId} {args : Array Value} {below : List Frame} {meth : Method} {c : Code} {D : va_G} {cA : Nat → ClassId} {sz : Nat}  {hh : Hp} {k_16 : Option Nat → Int32 → Int32 → UInt64 → UInt64 → UInt64 → Int32 → Int32 → Hp → Option (Unit × Hp)} (X : ab_X p s m args meth c cX9_leap 11 RX9 D cA sz) (hr : meth.sig.returnType = none) (hk_16 : ∀ (v0 : Option Nat) (v1 : Int32) (v2 : Int32) (v3 : UInt64) (v5 : UInt64) (v7 : UInt64) (v9 : Int32) (v10 : Int32) (h : Hp) (H : Heap) (locs : List Loc) (ls : Array Slot), ab_H D cA sz h s H locs → lv_has ls 11 [(0, va_rf v0), (1, .int v1), (2, .int v2), (3, .double v3), (5, .double v5), (7, .double v7), (9, .int v9), (10, .int v10)] → k_16 v0 v1 v2 v3 v5 v7 v9 v10 h = some ((), hh) → W p l e (ab_rm 6 0 0) s m args below meth c H locs 0 0 (MQ below (ab_Q D cA sz none hh) args s 0 0 (fun q => sz ≤ q)) (F0 m 16 ls [])) {H : Heap} {locs : List Loc} {ls : Array Slot} {v0 : Option Nat} {v1 : Int32} {v2 : Int32} {v3 : UInt64} {v5 : UInt64} {v7 : UInt64} {v9 : Int32} {v10 : Int32} {u0 : UInt64} {u1 : Int32} {u2 : Option Nat} {h : Hp} (S : ab_H D cA sz h s H locs) (hl : lv_has ls 11 [(0, va_rf v0), (1, .int v1), (2, .int v2), (3, .double v3), (5, .double v5), (7, .double v7), (9, .int v9), (10, .int v10)]) (hF : f_X9_leap_74 k_16 v0 v1 v2 v3 v5 v7 v9 v10 u0 u1 u2 h = some ((), hh)) : W p l e (ab_rm 6 0 0) s m args below meth c H locs 0 0 (MQ below (ab_Q D cA sz none hh) args s 0 0 (fun q => sz ≤ q)) (F0 m 74 ls [.double u0, .int u1, va_rf u2]) := by
  unfold f_X9_leap_74 at hF
  refine ab_astD X S hF dX9_leap_74 (fun h1 H1 locs1 hF S => ?_)
  refine lv_iinc (v := v10 + 1) (lv' := [(10, .int (v10 + 1)), (0, va_rf v0), (1, .int v1), (2, .int v2), (3, .double v3), (5, .double v5), (7, .double v7), (9, .int v9)]) X.1 X.2.1 dX9_leap_75 hl (k := 7) rfl (by rfl) (by decide) (by simp [ab_cat, ab_cI, ab_cJ, ab_cD, ab_cF]) (fun ls hl => ?_)
  refine lv_goto (tgt := 16) X.1 X.2.1 dX9_leap_78 (by decide) ?_
  exact hk_16 _ _ _ _ _ _ _ _ _ _ _ _ S (lv_sub hl [1, 2, 3, 4, 5, 6, 7, 0] rfl) hF
def f_X9_leap_16  : Nat → Option Nat → Int32 → Int32 → UInt64 → UInt64 → UInt64 → Int32 → Int32 → Hp → Option (Unit × Hp)
  | 0, _, _, _, _, _, _, _, _, _ => none
  | n + 1, v0, v1, v2, v3, v5, v7, v9, v10, h => if v2 ≤ v10 then
      (fop (FP.dadd v3 v7)).bind fun x2 =>
      (getR h v0 9 48).bind fun x3 =>
      (getR h v0 9 53).bind fun x4 =>
      (ab_ck h v0 (9, 0)).bind fun a8 =>
      bnd (f_X9_rates a8 v1 x2 x3 x4 h) fun _ h6 =>
      f_X9_leap_101 fuelN v0 v1 v2 v3 v5 v7 v9 0 h6
    else
      (getR h v0 9 48).bind fun x10 =>
      if v9 ≤ v10 then
        (getR h v0 9 47).bind fun x12 =>
        (aldD h x12 v10).bind fun x13 =>
        (getR h v0 9 52).bind fun x14 =>
        (aldD h x14 v10).bind fun x15 =>
        bnd (f_X9_times v7 x15 h) fun x16 h17 =>
        bnd (f_X9_plus x13 x16 h17) fun x19 h20 =>
        (ab_ck h20 v0 (9, 0)).bind fun a25 =>
        bnd (f_X9_put a25 v1 v10 x19 h20) fun x22 h23 =>
        f_X9_leap_74 (f_X9_leap_16 n) v0 v1 v2 v3 v5 v7 v9 v10 x22 v10 x10 h23
      else
        (getR h v0 9 47).bind fun x27 =>
        (aldD h x27 v10).bind fun x28 =>
        f_X9_leap_74 (f_X9_leap_16 n) v0 v1 v2 v3 v5 v7 v9 v10 x28 v10 x10 h
set_option maxHeartbeats 4000000 in
set_option maxRecDepth 100000 in
theorem w_X9_leap_16 {p : Program} {l : Launch} {e : Env} {s : State} {m : MethodId} {args : Array Value} {below : List Frame} {meth : Method} {c : Code} {D : va_G} {cA : Nat → ClassId} {sz : Nat}  {hh : Hp}  (X : ab_X p s m args meth c cX9_leap 11 RX9 D cA sz) (hr : meth.sig.returnType = none)  (n : Nat) : ∀ (v0 : Option Nat) (v1 : Int32) (v2 : Int32) (v3 : UInt64) (v5 : UInt64) (v7 : UInt64) (v9 : Int32) (v10 : Int32) (h : Hp) (H : Heap) (locs : List Loc) (ls : Array Slot), ab_H D cA sz h s H locs → lv_has ls 11 [(0, va_rf v0), (1, .int v1), (2, .int v2), (3, .double v3), (5, .double v5), (7, .double v7), (9, .int v9), (10, .int v10)] → f_X9_leap_16 n v0 v1 v2 v3 v5 v7 v9 v10 h = some ((), hh) → W p l e (ab_rm 6 0 0) s m args below meth c H locs 0 0 (MQ below (ab_Q D cA sz none hh) args s 0 0 (fun q => sz ≤ q)) (F0 m 16 ls []) := by
  induction n with
  | zero => intro v0 v1 v2 v3 v5 v7 v9 v10 h H locs ls S hl hF; cases hF
  | succ n ih =>
    intro v0 v1 v2 v3 v5 v7 v9 v10 h H locs ls S hl hF
    rw [f_X9_leap_16] at hF
    refine lv_iload X.1 X.2.1 dX9_leap_16 (lv_at hl 7 rfl) ?_
    refine lv_iload_n X.1 X.2.1 dX9_leap_18 rfl (lv_at hl 2 rfl) ?_
    refine lv_icmp_ge (tgt := 81) X.1 X.2.1 dX9_leap_19 (by decide) (fun c1 => ?_) (fun c1 => ?_)
    · have hF := ab_pos c1 hF
      refine ab_aload_n X dX9_leap_81 rfl (lv_at hl 0 rfl) ?_
      refine lv_iload_n X.1 X.2.1 dX9_leap_82 rfl (lv_at hl 1 rfl) ?_
      refine lv_dload_n X.1 X.2.1 dX9_leap_83 rfl (lv_at hl 3 rfl) ?_
      refine lv_dload X.1 X.2.1 dX9_leap_84 (lv_at hl 5 rfl) ?_
      obtain ⟨x2, ev, ne, hF⟩ := ab_fopx hF
      refine lv_dadd X.1 X.2.1 dX9_leap_86 ne ?_
      rw [ev]
      refine ab_aload_n X dX9_leap_87 rfl (lv_at hl 0 rfl) ?_
      refine ab_getR X S hF fi_9_48 lf_X9_149 dX9_leap_88 (fun x3 hF => ?_)
      refine ab_aload_n X dX9_leap_91 rfl (lv_at hl 0 rfl) ?_
      refine ab_getR X S hF fi_9_53 lf_X9_164 dX9_leap_92 (fun x4 hF => ?_)
      obtain ⟨a8, e9, hF⟩ := bind_out hF
      obtain ⟨x5, h6, e7, hF⟩ := bnd_out hF
      refine ab_callVv X S e9 (c_X9_rates l D cA sz e7) rfl (by decide) mi_X9_rates lm_X9_254 li_yX9_rates ls_yX9_rates (As := [.int v1, .double x2, va_rf x3, va_rf x4]) (rest := []) rfl ⟨by decide, by decide⟩ ⟨(by decide), (by decide)⟩ hl.1 rfl (by simp [ab_cat, ab_cI, ab_cJ, ab_cD, ab_cF]) dX9_leap_95 (fun H1 locs1 S => ?_)
      refine lv_iconst (v := 0) X.1 X.2.1 dX9_leap_98 (by decide) ?_
      refine lv_istore (lv' := [(10, .int 0), (0, va_rf v0), (1, .int v1), (2, .int v2), (3, .double v3), (5, .double v5), (7, .double v7), (9, .int v9)]) X.1 X.2.1 dX9_leap_99 hl (by decide) (by simp [ab_cat, ab_cI, ab_cJ, ab_cD, ab_cF]) (fun ls hl => ?_)
      exact w_X9_leap_101 X hr  fuelN _ _ _ _ _ _ _ _ _ _ _ _ S (lv_sub hl [1, 2, 3, 4, 5, 6, 7, 0] rfl) hF
    · have hF := ab_neg c1 hF
      refine ab_aload_n X dX9_leap_22 rfl (lv_at hl 0 rfl) ?_
      refine ab_getR X S hF fi_9_48 lf_X9_149 dX9_leap_23 (fun x10 hF => ?_)
      refine lv_iload X.1 X.2.1 dX9_leap_26 (lv_at hl 7 rfl) ?_
      refine lv_iload X.1 X.2.1 dX9_leap_28 (lv_at hl 7 rfl) ?_
      refine lv_iload X.1 X.2.1 dX9_leap_30 (lv_at hl 6 rfl) ?_
      refine lv_icmp_ge (tgt := 45) X.1 X.2.1 dX9_leap_32 (by decide) (fun c11 => ?_) (fun c11 => ?_)
      · have hF := ab_pos c11 hF
        refine ab_aload_n X dX9_leap_45 rfl (lv_at hl 0 rfl) ?_
        refine lv_iload_n X.1 X.2.1 dX9_leap_46 rfl (lv_at hl 1 rfl) ?_
        refine lv_iload X.1 X.2.1 dX9_leap_47 (lv_at hl 7 rfl) ?_
        refine ab_aload_n X dX9_leap_49 rfl (lv_at hl 0 rfl) ?_
        refine ab_getR X S hF fi_9_47 lf_X9_146 dX9_leap_50 (fun x12 hF => ?_)
        refine lv_iload X.1 X.2.1 dX9_leap_53 (lv_at hl 7 rfl) ?_
        refine ab_aldD X S hF dX9_leap_55 (fun x13 hF => ?_)
        refine lv_dload X.1 X.2.1 dX9_leap_56 (lv_at hl 5 rfl) ?_
        refine ab_aload_n X dX9_leap_58 rfl (lv_at hl 0 rfl) ?_
        refine ab_getR X S hF fi_9_52 lf_X9_161 dX9_leap_59 (fun x14 hF => ?_)
        refine lv_iload X.1 X.2.1 dX9_leap_62 (lv_at hl 7 rfl) ?_
        refine ab_aldD X S hF dX9_leap_64 (fun x15 hF => ?_)
        obtain ⟨x16, h17, e18, hF⟩ := bnd_out hF
        refine ab_callSd X S (c_X9_times l D cA sz e18) mi_X9_times lm_X9_211 lt_yX9_times (As := [.double v7, .double x15]) (rest := [.double x13, .int v10, .int v1, va_rf v0, .int v10, va_rf x10]) rfl ⟨by decide, by decide⟩ ⟨(by decide), (by decide)⟩ hl.1 rfl (by simp [ab_cat, ab_cI, ab_cJ, ab_cD, ab_cF]) dX9_leap_65 (fun H1 locs1 S => ?_)
        obtain ⟨x19, h20, e21, hF⟩ := bnd_out hF
        refine ab_callSd X S (c_X9_plus l D cA sz e21) mi_X9_plus lm_X9_214 lt_yX9_plus (As := [.double x13, .double x16]) (rest := [.int v10, .int v1, va_rf v0, .int v10, va_rf x10]) rfl ⟨by decide, by decide⟩ ⟨(by decide), (by decide)⟩ hl.1 rfl (by simp [ab_cat, ab_cI, ab_cJ, ab_cD, ab_cF]) dX9_leap_68 (fun H1 locs1 S => ?_)
        obtain ⟨a25, e26, hF⟩ := bind_out hF
        obtain ⟨x22, h23, e24, hF⟩ := bnd_out hF
        refine ab_callVd X S e26 (c_X9_put l D cA sz e24) rfl (by decide) mi_X9_put lm_X9_281 li_yX9_put ls_yX9_put (As := [.int v1, .int v10, .double x19]) (rest := [.int v10, va_rf x10]) rfl ⟨by decide, by decide⟩ ⟨(by decide), (by decide)⟩ hl.1 rfl (by simp [ab_cat, ab_cI, ab_cJ, ab_cD, ab_cF]) dX9_leap_71 (fun H1 locs1 S => ?_)
        exact w_X9_leap_74 X hr ih S (lv_sub hl [0, 1, 2, 3, 4, 5, 6, 7] rfl) hF
      · have hF := ab_neg c11 hF
        refine ab_aload_n X dX9_leap_35 rfl (lv_at hl 0 rfl) ?_
        refine ab_getR X S hF fi_9_47 lf_X9_146 dX9_leap_36 (fun x27 hF => ?_)
        refine lv_iload X.1 X.2.1 dX9_leap_39 (lv_at hl 7 rfl) ?_
        refine ab_aldD X S hF dX9_leap_41 (fun x28 hF => ?_)
        refine lv_goto (tgt := 74) X.1 X.2.1 dX9_leap_42 (by decide) ?_
        exact w_X9_leap_74 X hr ih S (lv_sub hl [0, 1, 2, 3, 4, 5, 6, 7] rfl) hF
def f_X9_leap (this : Nat) (p0 : Int32) (p1 : Int32) (p2 : UInt64) (p3 : UInt64) (h : Hp) : Option (Unit × Hp) :=
  (fop (FP.ddiv p3 4611686018427387904)).bind fun x1 =>
  f_X9_leap_16 fuelN (some this) p0 p1 p2 p3 x1 (p1 / 2) 0 h
theorem mi_X9_leap : ab_MI yX9_leap cX9_leap 11 none 4 := ⟨lc_yX9_leap, lz_RX9, by decide, by decide, by decide +kernel⟩
set_option maxHeartbeats 4000000 in
set_option maxRecDepth 100000 in
theorem c_X9_leap (l : Launch) (D : va_G) (cA : Nat → ClassId) (sz : Nat) {this : Nat} {p0 : Int32} {p1 : Int32} {p2 : UInt64} {p3 : UInt64} {h hh : Hp}  (hF : f_X9_leap this p0 p1 p2 p3 h = some ((), hh)) : ab_C l D cA sz yX9_leap cX9_leap 11 none 6 0 0 [.ref this, .int p0, .int p1, .double p2, .double p3] h none hh := by
  refine Met.ofW (cc := cX9_leap) (maxL := 11) (ret := none) (by decide) rfl ?_
  intro p e s m args below meth c s₁ B hml hv
  obtain ⟨rfl, hT, hR⟩ := hv
  have X : ab_X p s m _ meth c cX9_leap 11 RX9 D cA sz := (ab_enter B hml hT hR).1
  have S := (ab_enter B hml hT hR).2
  have hr := B.returns
  obtain ⟨ls, hls, hl⟩ := ab_entry m [.ref this, .int p0, .int p1, .double p2, .double p3] 11 (lv := [(0, .ref this), (1, .int p0), (2, .int p1), (3, .double p2), (5, .double p3)]) (by simp [lg_sl, ab_cat, ab_cI, ab_cJ, ab_cD, ab_cF, ab_cA]) (by simp [lv_args, ab_cat, ab_cI, ab_cJ, ab_cD, ab_cF, ab_cA])
  rw [hls]
  have hl : lv_has ls 11 [(0, va_rf (some this)), (1, .int p0), (2, .int p1), (3, .double p2), (5, .double p3)] := hl
  unfold f_X9_leap at hF
  show W p l e (ab_rm 6 0 0) s m _ below meth c s.heap [] 0 0 _ _
  refine lv_dload X.1 X.2.1 dX9_leap_0 (lv_at hl 4 rfl) ?_
  refine lv_ldc2d (v := 4611686018427387904) X.1 X.2.1 X.2.2.2.1 (X.2.2.2.2.1 _ ld_X9_285) dX9_leap_2 ?_
  obtain ⟨x1, ev, ne, hF⟩ := ab_fopx hF
  refine lv_ddiv X.1 X.2.1 dX9_leap_5 ne ?_
  rw [ev]
  refine lv_dstore (lv' := [(7, .double x1), (0, va_rf (some this)), (1, .int p0), (2, .int p1), (3, .double p2), (5, .double p3)]) X.1 X.2.1 dX9_leap_6 hl (by decide) (by simp [ab_cat, ab_cI, ab_cJ, ab_cD, ab_cF]) (fun ls hl => ?_)
  refine lv_iload_n X.1 X.2.1 dX9_leap_8 rfl (lv_at hl 3 rfl) ?_
  refine lv_iconst (v := 2) X.1 X.2.1 dX9_leap_9 (by decide) ?_
  refine lv_idiv X.1 X.2.1 dX9_leap_10 (by decide) ?_
  refine lv_istore (lv' := [(9, .int (p1 / 2)), (7, .double x1), (0, va_rf (some this)), (1, .int p0), (2, .int p1), (3, .double p2), (5, .double p3)]) X.1 X.2.1 dX9_leap_11 hl (by decide) (by simp [ab_cat, ab_cI, ab_cJ, ab_cD, ab_cF]) (fun ls hl => ?_)
  refine lv_iconst (v := 0) X.1 X.2.1 dX9_leap_13 (by decide) ?_
  refine lv_istore (lv' := [(10, .int 0), (9, .int (p1 / 2)), (7, .double x1), (0, va_rf (some this)), (1, .int p0), (2, .int p1), (3, .double p2), (5, .double p3)]) X.1 X.2.1 dX9_leap_14 hl (by decide) (by simp [ab_cat, ab_cI, ab_cJ, ab_cD, ab_cF]) (fun ls hl => ?_)
  exact w_X9_leap_16 X hr  fuelN _ _ _ _ _ _ _ _ _ _ _ _ S (lv_sub hl [3, 4, 5, 6, 7, 2, 1, 0] rfl) hF
def f_X9_greatestRatio_93 (k_5 : Option Nat → Int32 → Int32 → UInt64 → Int32 → Hp → Option (UInt64 × Hp)) (v0 : Option Nat) (v1 : Int32) (v2 : Int32) (v3 : UInt64) (v5 : Int32) (h : Hp) : Option (UInt64 × Hp) :=
  k_5 v0 v1 v2 v3 (v5 + 1) h
set_option maxHeartbeats 4000000 in
set_option maxRecDepth 100000 in
theorem w_X9_greatestRatio_93 {p : Program} {l : Launch} {e : Env} {s : State} {m : MethodId} {args : Array Value} {below : List Frame} {meth : Method} {c : Code} {D : va_G} {cA : Nat → ClassId} {sz : Nat} {rr : UInt64} {hh : Hp} {k_5 : Option Nat → Int32 → Int32 → UInt64 → Int32 → Hp → Option (UInt64 × Hp)} (X : ab_X p s m args meth c cX9_greatestRatio 12 RX9 D cA sz) (hr : meth.sig.returnType = (some .double)) (hk_5 : ∀ (v0 : Option Nat) (v1 : Int32) (v2 : Int32) (v3 : UInt64) (v5 : Int32) (h : Hp) (H : Heap) (locs : List Loc) (ls : Array Slot), ab_H D cA sz h s H locs → lv_has ls 12 [(0, va_rf v0), (1, .int v1), (2, .int v2), (3, .double v3), (5, .int v5)] → k_5 v0 v1 v2 v3 v5 h = some (rr, hh) → W p l e (ab_rm 2 0 0) s m args below meth c H locs 0 0 (MQ below (ab_Q D cA sz (some (.double rr)) hh) args s 0 0 (fun q => sz ≤ q)) (F0 m 5 ls [])) {H : Heap} {locs : List Loc} {ls : Array Slot} {v0 : Option Nat} {v1 : Int32} {v2 : Int32} {v3 : UInt64} {v5 : Int32} {h : Hp} (S : ab_H D cA sz h s H locs) (hl : lv_has ls 12 [(0, va_rf v0), (1, .int v1), (2, .int v2), (3, .double v3), (5, .int v5)]) (hF : f_X9_greatestRatio_93 k_5 v0 v1 v2 v3 v5 h = some (rr, hh)) : W p l e (ab_rm 2 0 0) s m args below meth c H locs 0 0 (MQ below (ab_Q D cA sz (some (.double rr)) hh) args s 0 0 (fun q => sz ≤ q)) (F0 m 93 ls []) := by
  unfold f_X9_greatestRatio_93 at hF
  refine lv_iinc (v := v5 + 1) (lv' := [(5, .int (v5 + 1)), (0, va_rf v0), (1, .int v1), (2, .int v2), (3, .double v3)]) X.1 X.2.1 dX9_greatestRatio_93 hl (k := 4) rfl (by rfl) (by decide) (by simp [ab_cat, ab_cI, ab_cJ, ab_cD, ab_cF]) (fun ls hl => ?_)
  refine lv_goto (tgt := 5) X.1 X.2.1 dX9_greatestRatio_96 (by decide) ?_
  exact hk_5 _ _ _ _ _ _ _ _ _ S (lv_sub hl [1, 2, 3, 4, 0] rfl) hF
def f_X9_greatestRatio_72 (k_5 : Option Nat → Int32 → Int32 → UInt64 → Int32 → Hp → Option (UInt64 × Hp)) (v0 : Option Nat) (v1 : Int32) (v2 : Int32) (v3 : UInt64) (v5 : Int32) (u0 : UInt64) (u1 : UInt64) (u2 : UInt64) (u3 : UInt64) (h : Hp) : Option (UInt64 × Hp) :=
  bnd (f_X9_times u1 u0 h) fun x1 h2 =>
  bnd (f_X9_plus u2 x1 h2) fun x4 h5 =>
  bnd (f_X9_by u3 x4 h5) fun x7 h8 =>
  if (Op.cmpValue (FP.dcmp x7 v3) CmpOp.l) ≤ 0 then
    f_X9_greatestRatio_93 k_5 v0 v1 v2 v3 v5 h8
  else
    f_X9_greatestRatio_93 k_5 v0 v1 v2 x7 v5 h8
set_option maxHeartbeats 4000000 in
set_option maxRecDepth 100000 in
theorem w_X9_greatestRatio_72 {p : Program} {l : Launch} {e : Env} {s : State} {m : MethodId} {args : Array Value} {below : List Frame} {meth : Method} {c : Code} {D : va_G} {cA : Nat → ClassId} {sz : Nat} {rr : UInt64} {hh : Hp} {k_5 : Option Nat → Int32 → Int32 → UInt64 → Int32 → Hp → Option (UInt64 × Hp)} (X : ab_X p s m args meth c cX9_greatestRatio 12 RX9 D cA sz) (hr : meth.sig.returnType = (some .double)) (hk_5 : ∀ (v0 : Option Nat) (v1 : Int32) (v2 : Int32) (v3 : UInt64) (v5 : Int32) (h : Hp) (H : Heap) (locs : List Loc) (ls : Array Slot), ab_H D cA sz h s H locs → lv_has ls 12 [(0, va_rf v0), (1, .int v1), (2, .int v2), (3, .double v3), (5, .int v5)] → k_5 v0 v1 v2 v3 v5 h = some (rr, hh) → W p l e (ab_rm 2 0 0) s m args below meth c H locs 0 0 (MQ below (ab_Q D cA sz (some (.double rr)) hh) args s 0 0 (fun q => sz ≤ q)) (F0 m 5 ls [])) {H : Heap} {locs : List Loc} {ls : Array Slot} {v0 : Option Nat} {v1 : Int32} {v2 : Int32} {v3 : UInt64} {v5 : Int32} {u0 : UInt64} {u1 : UInt64} {u2 : UInt64} {u3 : UInt64} {h : Hp} (S : ab_H D cA sz h s H locs) (hl : lv_has ls 12 [(0, va_rf v0), (1, .int v1), (2, .int v2), (3, .double v3), (5, .int v5)]) (hF : f_X9_greatestRatio_72 k_5 v0 v1 v2 v3 v5 u0 u1 u2 u3 h = some (rr, hh)) : W p l e (ab_rm 2 0 0) s m args below meth c H locs 0 0 (MQ below (ab_Q D cA sz (some (.double rr)) hh) args s 0 0 (fun q => sz ≤ q)) (F0 m 72 ls [.double u0, .double u1, .double u2, .double u3]) := by
  unfold f_X9_greatestRatio_72 at hF
  obtain ⟨x1, h2, e3, hF⟩ := bnd_out hF
  refine ab_callSd X S (c_X9_times l D cA sz e3) mi_X9_times lm_X9_211 lt_yX9_times (As := [.double u1, .double u0]) (rest := [.double u2, .double u3]) rfl ⟨by decide, by decide⟩ ⟨(by decide), (by decide)⟩ hl.1 rfl (by simp [ab_cat, ab_cI, ab_cJ, ab_cD, ab_cF]) dX9_greatestRatio_72 (fun H1 locs1 S => ?_)
  obtain ⟨x4, h5, e6, hF⟩ := bnd_out hF
  refine ab_callSd X S (c_X9_plus l D cA sz e6) mi_X9_plus lm_X9_214 lt_yX9_plus (As := [.double u2, .double x1]) (rest := [.double u3]) rfl ⟨by decide, by decide⟩ ⟨(by decide), (by decide)⟩ hl.1 rfl (by simp [ab_cat, ab_cI, ab_cJ, ab_cD, ab_cF]) dX9_greatestRatio_75 (fun H1 locs1 S => ?_)
  obtain ⟨x7, h8, e9, hF⟩ := bnd_out hF
  refine ab_callSd X S (c_X9_by l D cA sz e9) mi_X9_by lm_X9_208 lt_yX9_by (As := [.double u3, .double x4]) (rest := []) rfl ⟨by decide, by decide⟩ ⟨(by decide), (by decide)⟩ hl.1 rfl (by simp [ab_cat, ab_cI, ab_cJ, ab_cD, ab_cF]) dX9_greatestRatio_78 (fun H1 locs1 S => ?_)
  refine lv_dstore (lv' := [(10, .double x7), (0, va_rf v0), (1, .int v1), (2, .int v2), (3, .double v3), (5, .int v5)]) X.1 X.2.1 dX9_greatestRatio_81 hl (by decide) (by simp [ab_cat, ab_cI, ab_cJ, ab_cD, ab_cF]) (fun ls hl => ?_)
  refine lv_dload X.1 X.2.1 dX9_greatestRatio_83 (lv_at hl 0 rfl) ?_
  refine lv_dload_n X.1 X.2.1 dX9_greatestRatio_85 rfl (lv_at hl 4 rfl) ?_
  refine lv_dcmp X.1 X.2.1 dX9_greatestRatio_86 ?_
  refine lv_if_le (tgt := 93) X.1 X.2.1 dX9_greatestRatio_87 (by decide) (fun c10 => ?_) (fun c10 => ?_)
  · have hF := ab_pos c10 hF
    exact w_X9_greatestRatio_93 X hr hk_5 S (lv_sub hl [1, 2, 3, 4, 5] rfl) hF
  · have hF := ab_neg c10 hF
    refine lv_dload X.1 X.2.1 dX9_greatestRatio_90 (lv_at hl 0 rfl) ?_
    refine lv_dstore_n (i := 3) (lv' := [(3, .double x7), (10, .double x7), (0, va_rf v0), (1, .int v1), (2, .int v2), (5, .int v5)]) X.1 X.2.1 dX9_greatestRatio_92 rfl hl (by decide) (by simp [ab_cat, ab_cI, ab_cJ, ab_cD, ab_cF]) (fun ls hl => ?_)
    exact w_X9_greatestRatio_93 X hr hk_5 S (lv_sub hl [2, 3, 4, 0, 5] rfl) hF
def f_X9_greatestRatio_5  : Nat → Option Nat → Int32 → Int32 → UInt64 → Int32 → Hp → Option (UInt64 × Hp)
  | 0, _, _, _, _, _, _ => none
  | n + 1, v0, v1, v2, v3, v5, h => if v2 ≤ v5 then
      some (v3, h)
    else
      (getR h v0 9 47).bind fun x2 =>
      (aldD h x2 v5).bind fun x3 =>
      bnd (f_X9_size x3 h) fun x4 h5 =>
      (getR h5 v0 9 49).bind fun x7 =>
      (aldD h5 x7 v5).bind fun x8 =>
      bnd (f_X9_size x8 h5) fun x9 h10 =>
      (getR h10 v0 9 51).bind fun x12 =>
      (aldD h10 x12 v5).bind fun x13 =>
      bnd (f_X9_size x13 h10) fun x14 h15 =>
      (getR h15 v0 9 27).bind fun x17 =>
      (aldD h15 x17 v1).bind fun x18 =>
      (getR h15 v0 9 28).bind fun x19 =>
      (aldD h15 x19 v1).bind fun x20 =>
      if 0 ≤ (Op.cmpValue (FP.dcmp x4 x9) CmpOp.g) then
        f_X9_greatestRatio_72 (f_X9_greatestRatio_5 n) v0 v1 v2 v3 v5 x4 x20 x18 x14 h15
      else
        f_X9_greatestRatio_72 (f_X9_greatestRatio_5 n) v0 v1 v2 v3 v5 x9 x20 x18 x14 h15
set_option maxHeartbeats 4000000 in
set_option maxRecDepth 100000 in
theorem w_X9_greatestRatio_5 {p : Program} {l : Launch} {e : Env} {s : State} {m : MethodId} {args : Array Value} {below : List Frame} {meth : Method} {c : Code} {D : va_G} {cA : Nat → ClassId} {sz : Nat} {rr : UInt64} {hh : Hp}  (X : ab_X p s m args meth c cX9_greatestRatio 12 RX9 D cA sz) (hr : meth.sig.returnType = (some .double))  (n : Nat) : ∀ (v0 : Option Nat) (v1 : Int32) (v2 : Int32) (v3 : UInt64) (v5 : Int32) (h : Hp) (H : Heap) (locs : List Loc) (ls : Array Slot), ab_H D cA sz h s H locs → lv_has ls 12 [(0, va_rf v0), (1, .int v1), (2, .int v2), (3, .double v3), (5, .int v5)] → f_X9_greatestRatio_5 n v0 v1 v2 v3 v5 h = some (rr, hh) → W p l e (ab_rm 2 0 0) s m args below meth c H locs 0 0 (MQ below (ab_Q D cA sz (some (.double rr)) hh) args s 0 0 (fun q => sz ≤ q)) (F0 m 5 ls []) := by
  induction n with
  | zero => intro v0 v1 v2 v3 v5 h H locs ls S hl hF; cases hF
  | succ n ih =>
    intro v0 v1 v2 v3 v5 h H locs ls S hl hF
    rw [f_X9_greatestRatio_5] at hF
    refine lv_iload X.1 X.2.1 dX9_greatestRatio_5 (lv_at hl 4 rfl) ?_
    refine lv_iload_n X.1 X.2.1 dX9_greatestRatio_7 rfl (lv_at hl 2 rfl) ?_
    refine lv_icmp_ge (tgt := 99) X.1 X.2.1 dX9_greatestRatio_8 (by decide) (fun c1 => ?_) (fun c1 => ?_)
    · have hF := ab_pos c1 hF
      refine lv_dload_n X.1 X.2.1 dX9_greatestRatio_99 rfl (lv_at hl 3 rfl) ?_
      exact ab_dret X S hr hF dX9_greatestRatio_100
    · have hF := ab_neg c1 hF
      refine ab_aload_n X dX9_greatestRatio_11 rfl (lv_at hl 0 rfl) ?_
      refine ab_getR X S hF fi_9_47 lf_X9_146 dX9_greatestRatio_12 (fun x2 hF => ?_)
      refine lv_iload X.1 X.2.1 dX9_greatestRatio_15 (lv_at hl 4 rfl) ?_
      refine ab_aldD X S hF dX9_greatestRatio_17 (fun x3 hF => ?_)
      obtain ⟨x4, h5, e6, hF⟩ := bnd_out hF
      refine ab_callSd X S (c_X9_size l D cA sz e6) mi_X9_size lm_X9_221 lt_yX9_size (As := [.double x3]) (rest := []) rfl ⟨by decide, by decide⟩ ⟨(by decide), (by decide)⟩ hl.1 rfl (by simp [ab_cat, ab_cI, ab_cJ, ab_cD, ab_cF]) dX9_greatestRatio_18 (fun H1 locs1 S => ?_)
      refine lv_dstore (lv' := [(6, .double x4), (0, va_rf v0), (1, .int v1), (2, .int v2), (3, .double v3), (5, .int v5)]) X.1 X.2.1 dX9_greatestRatio_21 hl (by decide) (by simp [ab_cat, ab_cI, ab_cJ, ab_cD, ab_cF]) (fun ls hl => ?_)
      refine ab_aload_n X dX9_greatestRatio_23 rfl (lv_at hl 1 rfl) ?_
      refine ab_getR X S hF fi_9_49 lf_X9_152 dX9_greatestRatio_24 (fun x7 hF => ?_)
      refine lv_iload X.1 X.2.1 dX9_greatestRatio_27 (lv_at hl 5 rfl) ?_
      refine ab_aldD X S hF dX9_greatestRatio_29 (fun x8 hF => ?_)
      obtain ⟨x9, h10, e11, hF⟩ := bnd_out hF
      refine ab_callSd X S (c_X9_size l D cA sz e11) mi_X9_size lm_X9_221 lt_yX9_size (As := [.double x8]) (rest := []) rfl ⟨by decide, by decide⟩ ⟨(by decide), (by decide)⟩ hl.1 rfl (by simp [ab_cat, ab_cI, ab_cJ, ab_cD, ab_cF]) dX9_greatestRatio_30 (fun H1 locs1 S => ?_)
      refine lv_dstore (lv' := [(8, .double x9), (6, .double x4), (0, va_rf v0), (1, .int v1), (2, .int v2), (3, .double v3), (5, .int v5)]) X.1 X.2.1 dX9_greatestRatio_33 hl (by decide) (by simp [ab_cat, ab_cI, ab_cJ, ab_cD, ab_cF]) (fun ls hl => ?_)
      refine ab_aload_n X dX9_greatestRatio_35 rfl (lv_at hl 2 rfl) ?_
      refine ab_getR X S hF fi_9_51 lf_X9_158 dX9_greatestRatio_36 (fun x12 hF => ?_)
      refine lv_iload X.1 X.2.1 dX9_greatestRatio_39 (lv_at hl 6 rfl) ?_
      refine ab_aldD X S hF dX9_greatestRatio_41 (fun x13 hF => ?_)
      obtain ⟨x14, h15, e16, hF⟩ := bnd_out hF
      refine ab_callSd X S (c_X9_size l D cA sz e16) mi_X9_size lm_X9_221 lt_yX9_size (As := [.double x13]) (rest := []) rfl ⟨by decide, by decide⟩ ⟨(by decide), (by decide)⟩ hl.1 rfl (by simp [ab_cat, ab_cI, ab_cJ, ab_cD, ab_cF]) dX9_greatestRatio_42 (fun H1 locs1 S => ?_)
      refine ab_aload_n X dX9_greatestRatio_45 rfl (lv_at hl 2 rfl) ?_
      refine ab_getR X S hF fi_9_27 lf_X9_89 dX9_greatestRatio_46 (fun x17 hF => ?_)
      refine lv_iload_n X.1 X.2.1 dX9_greatestRatio_49 rfl (lv_at hl 3 rfl) ?_
      refine ab_aldD X S hF dX9_greatestRatio_50 (fun x18 hF => ?_)
      refine ab_aload_n X dX9_greatestRatio_51 rfl (lv_at hl 2 rfl) ?_
      refine ab_getR X S hF fi_9_28 lf_X9_92 dX9_greatestRatio_52 (fun x19 hF => ?_)
      refine lv_iload_n X.1 X.2.1 dX9_greatestRatio_55 rfl (lv_at hl 3 rfl) ?_
      refine ab_aldD X S hF dX9_greatestRatio_56 (fun x20 hF => ?_)
      refine lv_dload X.1 X.2.1 dX9_greatestRatio_57 (lv_at hl 1 rfl) ?_
      refine lv_dload X.1 X.2.1 dX9_greatestRatio_59 (lv_at hl 0 rfl) ?_
      refine lv_dcmp X.1 X.2.1 dX9_greatestRatio_61 ?_
      refine lv_if_ge (tgt := 70) X.1 X.2.1 dX9_greatestRatio_62 (by decide) (fun c21 => ?_) (fun c21 => ?_)
      · have hF := ab_pos c21 hF
        refine lv_dload X.1 X.2.1 dX9_greatestRatio_70 (lv_at hl 1 rfl) ?_
        exact w_X9_greatestRatio_72 X hr ih S (lv_sub hl [2, 3, 4, 5, 6] rfl) hF
      · have hF := ab_neg c21 hF
        refine lv_dload X.1 X.2.1 dX9_greatestRatio_65 (lv_at hl 0 rfl) ?_
        refine lv_goto (tgt := 72) X.1 X.2.1 dX9_greatestRatio_67 (by decide) ?_
        exact w_X9_greatestRatio_72 X hr ih S (lv_sub hl [2, 3, 4, 5, 6] rfl) hF
def f_X9_greatestRatio (this : Nat) (p0 : Int32) (p1 : Int32) (h : Hp) : Option (UInt64 × Hp) :=
  f_X9_greatestRatio_5 fuelN (some this) p0 p1 FP.dconst0 0 h
theorem mi_X9_greatestRatio : ab_MI yX9_greatestRatio cX9_greatestRatio 12 (some .double) 2 := ⟨lc_yX9_greatestRatio, lz_RX9, by decide, by decide, by decide +kernel⟩
set_option maxHeartbeats 4000000 in
set_option maxRecDepth 100000 in
theorem c_X9_greatestRatio (l : Launch) (D : va_G) (cA : Nat → ClassId) (sz : Nat) {this : Nat} {p0 : Int32} {p1 : Int32} {h hh : Hp} {rr : UInt64} (hF : f_X9_greatestRatio this p0 p1 h = some (rr, hh)) : ab_C l D cA sz yX9_greatestRatio cX9_greatestRatio 12 (some .double) 2 0 0 [.ref this, .int p0, .int p1] h (some (.double rr)) hh := by
  refine Met.ofW (cc := cX9_greatestRatio) (maxL := 12) (ret := (some .double)) (by decide) rfl ?_
  intro p e s m args below meth c s₁ B hml hv
  obtain ⟨rfl, hT, hR⟩ := hv
  have X : ab_X p s m _ meth c cX9_greatestRatio 12 RX9 D cA sz := (ab_enter B hml hT hR).1
  have S := (ab_enter B hml hT hR).2
  have hr := B.returns
  obtain ⟨ls, hls, hl⟩ := ab_entry m [.ref this, .int p0, .int p1] 12 (lv := [(0, .ref this), (1, .int p0), (2, .int p1)]) (by simp [lg_sl, ab_cat, ab_cI, ab_cJ, ab_cD, ab_cF, ab_cA]) (by simp [lv_args, ab_cat, ab_cI, ab_cJ, ab_cD, ab_cF, ab_cA])
  rw [hls]
  have hl : lv_has ls 12 [(0, va_rf (some this)), (1, .int p0), (2, .int p1)] := hl
  unfold f_X9_greatestRatio at hF
  show W p l e (ab_rm 2 0 0) s m _ below meth c s.heap [] 0 0 _ _
  refine lv_dconst0 X.1 X.2.1 dX9_greatestRatio_0 ?_
  refine lv_dstore_n (i := 3) (lv' := [(3, .double FP.dconst0), (0, va_rf (some this)), (1, .int p0), (2, .int p1)]) X.1 X.2.1 dX9_greatestRatio_1 rfl hl (by decide) (by simp [ab_cat, ab_cI, ab_cJ, ab_cD, ab_cF]) (fun ls hl => ?_)
  refine lv_iconst (v := 0) X.1 X.2.1 dX9_greatestRatio_2 (by decide) ?_
  refine lv_istore (lv' := [(5, .int 0), (3, .double FP.dconst0), (0, va_rf (some this)), (1, .int p0), (2, .int p1)]) X.1 X.2.1 dX9_greatestRatio_3 hl (by decide) (by simp [ab_cat, ab_cI, ab_cJ, ab_cD, ab_cF]) (fun ls hl => ?_)
  exact w_X9_greatestRatio_5 X hr  fuelN _ _ _ _ _ _ _ _ _ S (lv_sub hl [2, 3, 4, 1, 0] rfl) hF
def f_X9_longer_63  (u0 : UInt64) (h : Hp) : Option (UInt64 × Hp) :=
  some (u0, h)
set_option maxHeartbeats 4000000 in
set_option maxRecDepth 100000 in
theorem w_X9_longer_63 {p : Program} {l : Launch} {e : Env} {s : State} {m : MethodId} {args : Array Value} {below : List Frame} {meth : Method} {c : Code} {D : va_G} {cA : Nat → ClassId} {sz : Nat} {rr : UInt64} {hh : Hp}  (X : ab_X p s m args meth c cX9_longer 6 RX9 D cA sz) (hr : meth.sig.returnType = (some .double))  {H : Heap} {locs : List Loc} {ls : Array Slot} {u0 : UInt64} {h : Hp} (S : ab_H D cA sz h s H locs) (hl : lv_has ls 6 []) (hF : f_X9_longer_63 u0 h = some (rr, hh)) : W p l e (ab_rm 1 0 0) s m args below meth c H locs 0 0 (MQ below (ab_Q D cA sz (some (.double rr)) hh) args s 0 0 (fun q => sz ≤ q)) (F0 m 63 ls [.double u0]) := by
  unfold f_X9_longer_63 at hF
  exact ab_dret X S hr hF dX9_longer_63
def f_X9_longer_33  (u0 : UInt64) (h : Hp) : Option (UInt64 × Hp) :=
  bnd (f_X9_size u0 h) fun x1 h2 =>
  if (Op.cmpValue (FP.dcmp x1 4652218415073722368) CmpOp.l) ≤ 0 then
    some (u0, h2)
  else
    if 0 ≤ (Op.cmpValue (FP.dcmp u0 FP.dconst0) CmpOp.g) then
      f_X9_longer_63 4652218415073722368 h2
    else
      f_X9_longer_63 13875590451928498176 h2
set_option maxHeartbeats 4000000 in
set_option maxRecDepth 100000 in
theorem w_X9_longer_33 {p : Program} {l : Launch} {e : Env} {s : State} {m : MethodId} {args : Array Value} {below : List Frame} {meth : Method} {c : Code} {D : va_G} {cA : Nat → ClassId} {sz : Nat} {rr : UInt64} {hh : Hp}  (X : ab_X p s m args meth c cX9_longer 6 RX9 D cA sz) (hr : meth.sig.returnType = (some .double))  {H : Heap} {locs : List Loc} {ls : Array Slot} {u0 : UInt64} {h : Hp} (S : ab_H D cA sz h s H locs) (hl : lv_has ls 6 []) (hF : f_X9_longer_33 u0 h = some (rr, hh)) : W p l e (ab_rm 1 0 0) s m args below meth c H locs 0 0 (MQ below (ab_Q D cA sz (some (.double rr)) hh) args s 0 0 (fun q => sz ≤ q)) (F0 m 33 ls [.double u0]) := by
  unfold f_X9_longer_33 at hF
  refine lv_dstore (lv' := [(4, .double u0)]) X.1 X.2.1 dX9_longer_33 hl (by decide) (by simp [ab_cat, ab_cI, ab_cJ, ab_cD, ab_cF]) (fun ls hl => ?_)
  refine lv_dload X.1 X.2.1 dX9_longer_35 (lv_at hl 0 rfl) ?_
  obtain ⟨x1, h2, e3, hF⟩ := bnd_out hF
  refine ab_callSd X S (c_X9_size l D cA sz e3) mi_X9_size lm_X9_221 lt_yX9_size (As := [.double u0]) (rest := []) rfl ⟨by decide, by decide⟩ ⟨(by decide), (by decide)⟩ hl.1 rfl (by simp [ab_cat, ab_cI, ab_cJ, ab_cD, ab_cF]) dX9_longer_37 (fun H1 locs1 S => ?_)
  refine lv_ldc2d (v := 4652218415073722368) X.1 X.2.1 X.2.2.2.1 (X.2.2.2.2.1 _ ld_X9_326) dX9_longer_40 ?_
  refine lv_dcmp X.1 X.2.1 dX9_longer_43 ?_
  refine lv_if_le (tgt := 64) X.1 X.2.1 dX9_longer_44 (by decide) (fun c4 => ?_) (fun c4 => ?_)
  · have hF := ab_pos c4 hF
    refine lv_dload X.1 X.2.1 dX9_longer_64 (lv_at hl 0 rfl) ?_
    exact ab_dret X S hr hF dX9_longer_66
  · have hF := ab_neg c4 hF
    refine lv_dload X.1 X.2.1 dX9_longer_47 (lv_at hl 0 rfl) ?_
    refine lv_dconst0 X.1 X.2.1 dX9_longer_49 ?_
    refine lv_dcmp X.1 X.2.1 dX9_longer_50 ?_
    refine lv_if_ge (tgt := 60) X.1 X.2.1 dX9_longer_51 (by decide) (fun c5 => ?_) (fun c5 => ?_)
    · have hF := ab_pos c5 hF
      refine lv_ldc2d (v := 4652218415073722368) X.1 X.2.1 X.2.2.2.1 (X.2.2.2.2.1 _ ld_X9_326) dX9_longer_60 ?_
      exact w_X9_longer_63 X hr  S (lv_sub hl [] rfl) hF
    · have hF := ab_neg c5 hF
      refine lv_ldc2d (v := 13875590451928498176) X.1 X.2.1 X.2.2.2.1 (X.2.2.2.2.1 _ ld_X9_328) dX9_longer_54 ?_
      refine lv_goto (tgt := 63) X.1 X.2.1 dX9_longer_57 (by decide) ?_
      exact w_X9_longer_63 X hr  S (lv_sub hl [] rfl) hF
def f_X9_longer (p0 : UInt64) (p1 : UInt64) (h : Hp) : Option (UInt64 × Hp) :=
  if 0 < (Op.cmpValue (FP.dcmp p1 4580160821035794432) CmpOp.g) then
    if 0 < (Op.cmpValue (FP.dcmp p1 4593671619917905920) CmpOp.g) then
      f_X9_longer_33 p0 h
    else
      (fop (FP.dmul p0 4611686018427387904)).bind fun x3 =>
      f_X9_longer_33 x3 h
  else
    (fop (FP.dmul p0 4616189618054758400)).bind fun x4 =>
    f_X9_longer_33 x4 h
theorem mi_X9_longer : ab_MI yX9_longer cX9_longer 6 (some .double) 2 := ⟨lc_yX9_longer, lz_RX9, by decide, by decide, by decide +kernel⟩
set_option maxHeartbeats 4000000 in
set_option maxRecDepth 100000 in
theorem c_X9_longer (l : Launch) (D : va_G) (cA : Nat → ClassId) (sz : Nat) {p0 : UInt64} {p1 : UInt64} {h hh : Hp} {rr : UInt64} (hF : f_X9_longer p0 p1 h = some (rr, hh)) : ab_C l D cA sz yX9_longer cX9_longer 6 (some .double) 1 0 0 [.double p0, .double p1] h (some (.double rr)) hh := by
  refine Met.ofW (cc := cX9_longer) (maxL := 6) (ret := (some .double)) (by decide) rfl ?_
  intro p e s m args below meth c s₁ B hml hv
  obtain ⟨rfl, hT, hR⟩ := hv
  have X : ab_X p s m _ meth c cX9_longer 6 RX9 D cA sz := (ab_enter B hml hT hR).1
  have S := (ab_enter B hml hT hR).2
  have hr := B.returns
  obtain ⟨ls, hls, hl⟩ := ab_entry m [.double p0, .double p1] 6 (lv := [(0, .double p0), (2, .double p1)]) (by simp [lg_sl, ab_cat, ab_cI, ab_cJ, ab_cD, ab_cF, ab_cA]) (by simp [lv_args, ab_cat, ab_cI, ab_cJ, ab_cD, ab_cF, ab_cA])
  rw [hls]
  have hl : lv_has ls 6 [(0, .double p0), (2, .double p1)] := hl
  unfold f_X9_longer at hF
  show W p l e (ab_rm 1 0 0) s m _ below meth c s.heap [] 0 0 _ _
  refine lv_dload_n X.1 X.2.1 dX9_longer_0 rfl (lv_at hl 1 rfl) ?_
  refine lv_ldc2d (v := 4580160821035794432) X.1 X.2.1 X.2.2.2.1 (X.2.2.2.2.1 _ ld_X9_322) dX9_longer_1 ?_
  refine lv_dcmp X.1 X.2.1 dX9_longer_4 ?_
  refine lv_if_gt (tgt := 16) X.1 X.2.1 dX9_longer_5 (by decide) (fun c1 => ?_) (fun c1 => ?_)
  · have hF := ab_pos c1 hF
    refine lv_dload_n X.1 X.2.1 dX9_longer_16 rfl (lv_at hl 1 rfl) ?_
    refine lv_ldc2d (v := 4593671619917905920) X.1 X.2.1 X.2.2.2.1 (X.2.2.2.2.1 _ ld_X9_324) dX9_longer_17 ?_
    refine lv_dcmp X.1 X.2.1 dX9_longer_20 ?_
    refine lv_if_gt (tgt := 32) X.1 X.2.1 dX9_longer_21 (by decide) (fun c2 => ?_) (fun c2 => ?_)
    · have hF := ab_pos c2 hF
      refine lv_dload_n X.1 X.2.1 dX9_longer_32 rfl (lv_at hl 0 rfl) ?_
      exact w_X9_longer_33 X hr  S (lv_sub hl [] rfl) hF
    · have hF := ab_neg c2 hF
      refine lv_dload_n X.1 X.2.1 dX9_longer_24 rfl (lv_at hl 0 rfl) ?_
      refine lv_ldc2d (v := 4611686018427387904) X.1 X.2.1 X.2.2.2.1 (X.2.2.2.2.1 _ ld_X9_285) dX9_longer_25 ?_
      obtain ⟨x3, ev, ne, hF⟩ := ab_fopx hF
      refine lv_dmul X.1 X.2.1 dX9_longer_28 ne ?_
      rw [ev]
      refine lv_goto (tgt := 33) X.1 X.2.1 dX9_longer_29 (by decide) ?_
      exact w_X9_longer_33 X hr  S (lv_sub hl [] rfl) hF
  · have hF := ab_neg c1 hF
    refine lv_dload_n X.1 X.2.1 dX9_longer_8 rfl (lv_at hl 0 rfl) ?_
    refine lv_ldc2d (v := 4616189618054758400) X.1 X.2.1 X.2.2.2.1 (X.2.2.2.2.1 _ ld_X9_289) dX9_longer_9 ?_
    obtain ⟨x4, ev, ne, hF⟩ := ab_fopx hF
    refine lv_dmul X.1 X.2.1 dX9_longer_12 ne ?_
    rw [ev]
    refine lv_goto (tgt := 33) X.1 X.2.1 dX9_longer_13 (by decide) ?_
    exact w_X9_longer_33 X hr  S (lv_sub hl [] rfl) hF
