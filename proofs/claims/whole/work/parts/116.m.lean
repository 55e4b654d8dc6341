def f_X9_step_37  (u0 : Int32) (h : Hp) : Option (Int32 × Hp) :=
  some (u0, h)
set_option maxHeartbeats 4000000 in
set_option maxRecDepth 100000 in
theorem w_X9_step_37 {p : Program} {l : Launch} {e : Env} {s : State} {m : MethodId} {args : Array Value} {below : List Frame} {meth : Method} {c : Code} {D : va_G} {cA : Nat → ClassId} {sz : Nat} {rr : Int32} {hh : Hp}  (X : ab_X p s m args meth c cX9_step 2 RX9 D cA sz) (hr : meth.sig.returnType = (some .int))  {H : Heap} {locs : List Loc} {ls : Array Slot} {u0 : Int32} {h : Hp} (S : ab_H D cA sz h s H locs) (hl : lv_has ls 2 []) (hF : f_X9_step_37 u0 h = some (rr, hh)) : W p l e (ab_rm 9 0 0) s m args below meth c H locs 0 0 (MQ below (ab_Q D cA sz (some (.int rr)) hh) args s 0 0 (fun q => sz ≤ q)) (F0 m 37 ls [.int u0]) := by
  unfold f_X9_step_37 at hF
  exact ab_iret X S hr hF dX9_step_37
def f_X9_step (this : Nat) (p0 : Int32) (h : Hp) : Option (Int32 × Hp) :=
  (ab_ck h (some this) (9, 0)).bind fun a4 =>
  bnd (f_X9_isRun a4 p0 h) fun x1 h2 =>
  if ¬ x1 = 0 then
    (getR h2 (some this) 9 22).bind fun x7 =>
    (aldI h2 x7 12 p0).bind fun x8 =>
    if x8 = 0 then
      (getR h2 (some this) 9 26).bind fun x10 =>
      (aldD h2 x10 p0).bind fun x11 =>
      (ab_ck h2 (some this) (9, 0)).bind fun a15 =>
      bnd (f_X9_goes a15 p0 x11 0 FP.dconst0 h2) fun x12 h13 =>
      f_X9_step_37 x12 h13
    else
      f_X9_step_37 (-2) h2
  else
    some ((-1), h2)
theorem mi_X9_step : ab_MI yX9_step cX9_step 2 (some .int) 1 := ⟨lc_yX9_step, lz_RX9, by decide, by decide, by decide +kernel⟩
set_option maxHeartbeats 4000000 in
set_option maxRecDepth 100000 in
theorem c_X9_step (l : Launch) (D : va_G) (cA : Nat → ClassId) (sz : Nat) {this : Nat} {p0 : Int32} {h hh : Hp} {rr : Int32} (hF : f_X9_step this p0 h = some (rr, hh)) : ab_C l D cA sz yX9_step cX9_step 2 (some .int) 9 0 0 [.ref this, .int p0] h (some (.int rr)) hh := by
  refine Met.ofW (cc := cX9_step) (maxL := 2) (ret := (some .int)) (by decide) rfl ?_
  intro p e s m args below meth c s₁ B hml hv
  obtain ⟨rfl, hT, hR⟩ := hv
  have X : ab_X p s m _ meth c cX9_step 2 RX9 D cA sz := (ab_enter B hml hT hR).1
  have S := (ab_enter B hml hT hR).2
  have hr := B.returns
  obtain ⟨ls, hls, hl⟩ := ab_entry m [.ref this, .int p0] 2 (lv := [(0, .ref this), (1, .int p0)]) (by simp [lg_sl, ab_cat, ab_cI, ab_cJ, ab_cD, ab_cF, ab_cA]) (by simp [lv_args, ab_cat, ab_cI, ab_cJ, ab_cD, ab_cF, ab_cA])
  rw [hls]
  have hl : lv_has ls 2 [(0, va_rf (some this)), (1, .int p0)] := hl
  unfold f_X9_step at hF
  show W p l e (ab_rm 9 0 0) s m _ below meth c s.heap [] 0 0 _ _
  refine ab_aload_n X dX9_step_0 rfl (lv_at hl 0 rfl) ?_
  refine lv_iload_n X.1 X.2.1 dX9_step_1 rfl (lv_at hl 1 rfl) ?_
  obtain ⟨a4, e5, hF⟩ := bind_out hF
  obtain ⟨x1, h2, e3, hF⟩ := bnd_out hF
  refine ab_callVi X S e5 (c_X9_isRun l D cA sz e3) rfl (by decide) mi_X9_isRun lm_X9_366 li_yX9_isRun ls_yX9_isRun (As := [.int p0]) (rest := []) rfl ⟨by decide, by decide⟩ ⟨(by decide), (by decide)⟩ hl.1 rfl (by simp [ab_cat, ab_cI, ab_cJ, ab_cD, ab_cF]) dX9_step_2 (fun H1 locs1 S => ?_)
  refine lv_if_ne (tgt := 10) X.1 X.2.1 dX9_step_5 (by decide) (fun c6 => ?_) (fun c6 => ?_)
  · have hF := ab_pos c6 hF
    refine ab_aload_n X dX9_step_10 rfl (lv_at hl 0 rfl) ?_
    refine ab_getR X S hF fi_9_22 lf_X9_73 dX9_step_11 (fun x7 hF => ?_)
    refine lv_iload_n X.1 X.2.1 dX9_step_14 rfl (lv_at hl 1 rfl) ?_
    refine ab_aldZ X S hF dX9_step_15 (fun x8 hF => ?_)
    refine lv_if_eq (tgt := 24) X.1 X.2.1 dX9_step_16 (by decide) (fun c9 => ?_) (fun c9 => ?_)
    · have hF := ab_pos c9 hF
      refine ab_aload_n X dX9_step_24 rfl (lv_at hl 0 rfl) ?_
      refine lv_iload_n X.1 X.2.1 dX9_step_25 rfl (lv_at hl 1 rfl) ?_
      refine ab_aload_n X dX9_step_26 rfl (lv_at hl 0 rfl) ?_
      refine ab_getR X S hF fi_9_26 lf_X9_86 dX9_step_27 (fun x10 hF => ?_)
      refine lv_iload_n X.1 X.2.1 dX9_step_30 rfl (lv_at hl 1 rfl) ?_
      refine ab_aldD X S hF dX9_step_31 (fun x11 hF => ?_)
      refine lv_iconst (v := 0) X.1 X.2.1 dX9_step_32 (by decide) ?_
      refine lv_dconst0 X.1 X.2.1 dX9_step_33 ?_
      obtain ⟨a15, e16, hF⟩ := bind_out hF
      obtain ⟨x12, h13, e14, hF⟩ := bnd_out hF
      refine ab_callVi X S e16 (c_X9_goes l D cA sz e14) rfl (by decide) mi_X9_goes lm_X9_370 li_yX9_goes ls_yX9_goes (As := [.int p0, .double x11, .int 0, .double FP.dconst0]) (rest := []) rfl ⟨by decide, by decide⟩ ⟨(by decide), (by decide)⟩ hl.1 rfl (by simp [ab_cat, ab_cI, ab_cJ, ab_cD, ab_cF]) dX9_step_34 (fun H1 locs1 S => ?_)
      exact w_X9_step_37 X hr  S (lv_sub hl [] rfl) hF
    · have hF := ab_neg c9 hF
      refine lv_bipush (v := (-2)) X.1 X.2.1 dX9_step_19 (by decide) ?_
      refine lv_goto (tgt := 37) X.1 X.2.1 dX9_step_21 (by decide) ?_
      exact w_X9_step_37 X hr  S (lv_sub hl [] rfl) hF
  · have hF := ab_neg (fun q => q c6) hF
    refine lv_iconst (v := (-1)) X.1 X.2.1 dX9_step_8 (by decide) ?_
    exact ab_iret X S hr hF dX9_step_9
def f_X9_to_31   (h : Hp) : Option (Int32 × Hp) :=
  some ((-1), h)
set_option maxHeartbeats 4000000 in
set_option maxRecDepth 100000 in
theorem w_X9_to_31 {p : Program} {l : Launch} {e : Env} {s : State} {m : MethodId} {args : Array Value} {below : List Frame} {meth : Method} {c : Code} {D : va_G} {cA : Nat → ClassId} {sz : Nat} {rr : Int32} {hh : Hp}  (X : ab_X p s m args meth c cX9_to 13 RX9 D cA sz) (hr : meth.sig.returnType = (some .int))  {H : Heap} {locs : List Loc} {ls : Array Slot}  {h : Hp} (S : ab_H D cA sz h s H locs) (hl : lv_has ls 13 []) (hF : f_X9_to_31  h = some (rr, hh)) : W p l e (ab_rm 9 0 0) s m args below meth c H locs 0 0 (MQ below (ab_Q D cA sz (some (.int rr)) hh) args s 0 0 (fun q => sz ≤ q)) (F0 m 31 ls []) := by
  unfold f_X9_to_31 at hF
  refine lv_iconst (v := (-1)) X.1 X.2.1 dX9_to_31 (by decide) ?_
  exact ab_iret X S hr hF dX9_to_32
def f_X9_to_222  (v10 : Int32) (h : Hp) : Option (Int32 × Hp) :=
  some (v10, h)
set_option maxHeartbeats 4000000 in
set_option maxRecDepth 100000 in
theorem w_X9_to_222 {p : Program} {l : Launch} {e : Env} {s : State} {m : MethodId} {args : Array Value} {below : List Frame} {meth : Method} {c : Code} {D : va_G} {cA : Nat → ClassId} {sz : Nat} {rr : Int32} {hh : Hp}  (X : ab_X p s m args meth c cX9_to 13 RX9 D cA sz) (hr : meth.sig.returnType = (some .int))  {H : Heap} {locs : List Loc} {ls : Array Slot} {v10 : Int32} {h : Hp} (S : ab_H D cA sz h s H locs) (hl : lv_has ls 13 [(10, .int v10)]) (hF : f_X9_to_222 v10 h = some (rr, hh)) : W p l e (ab_rm 9 0 0) s m args below meth c H locs 0 0 (MQ below (ab_Q D cA sz (some (.int rr)) hh) args s 0 0 (fun q => sz ≤ q)) (F0 m 222 ls []) := by
  unfold f_X9_to_222 at hF
  refine lv_iload X.1 X.2.1 dX9_to_222 (lv_at hl 0 rfl) ?_
  exact ab_iret X S hr hF dX9_to_224
def f_X9_to_181 (k_115 : Option Nat → Int32 → Int32 → UInt64 → UInt64 → Int32 → Hp → Option (Int32 × Hp)) (v0 : Option Nat) (v1 : Int32) (v5 : Int32) (v6 : UInt64) (v10 : Int32) (v11 : Int32) (u0 : UInt64) (u1 : Int32) (u2 : Option Nat) (h : Hp) : Option (Int32 × Hp) :=
  (ab_ck h u2 (9, 0)).bind fun a4 =>
  bnd (f_X9_goes a4 u1 u0 v11 v6 h) fun x1 h2 =>
  if 0 ≤ x1 then
    (getR h2 v0 9 25).bind fun x7 =>
    (aldD h2 x7 v1).bind fun x8 =>
    (fop (FP.dsub v6 x8)).bind fun x9 =>
    k_115 v0 v1 v5 v6 x9 (v10 + 1) h2
  else
    (ab_ck h2 v0 (9, 0)).bind fun a13 =>
    bnd (f_X9_copies a13 8 v1 h2) fun _ h11 =>
    some (x1, h11)
set_option maxHeartbeats 4000000 in
set_option maxRecDepth 100000 in
theorem w_X9_to_181 {p : Program} {l : Launch} {e : Env} {s : State} {m : MethodId} {args : Array Value} {below : List Frame} {meth : Method} {c : Code} {D : va_G} {cA : Nat → ClassId} {sz : Nat} {rr : Int32} {hh : Hp} {k_115 : Option Nat → Int32 → Int32 → UInt64 → UInt64 → Int32 → Hp → Option (Int32 × Hp)} (X : ab_X p s m args meth c cX9_to 13 RX9 D cA sz) (hr : meth.sig.returnType = (some .int)) (hk_115 : ∀ (v0 : Option Nat) (v1 : Int32) (v5 : Int32) (v6 : UInt64) (v8 : UInt64) (v10 : Int32) (h : Hp) (H : Heap) (locs : List Loc) (ls : Array Slot), ab_H D cA sz h s H locs → lv_has ls 13 [(0, va_rf v0), (1, .int v1), (5, .int v5), (6, .double v6), (8, .double v8), (10, .int v10)] → k_115 v0 v1 v5 v6 v8 v10 h = some (rr, hh) → W p l e (ab_rm 9 0 0) s m args below meth c H locs 0 0 (MQ below (ab_Q D cA sz (some (.int rr)) hh) args s 0 0 (fun q => sz ≤ q)) (F0 m 115 ls [])) {H : Heap} {locs : List Loc} {ls : Array Slot} {v0 : Option Nat} {v1 : Int32} {v5 : Int32} {v6 : UInt64} {v10 : Int32} {v11 : Int32} {u0 : UInt64} {u1 : Int32} {u2 : Option Nat} {h : Hp} (S : ab_H D cA sz h s H locs) (hl : lv_has ls 13 [(0, va_rf v0), (1, .int v1), (5, .int v5), (6, .double v6), (10, .int v10), (11, .int v11)]) (hF : f_X9_to_181 k_115 v0 v1 v5 v6 v10 v11 u0 u1 u2 h = some (rr, hh)) : W p l e (ab_rm 9 0 0) s m args below meth c H locs 0 0 (MQ below (ab_Q D cA sz (some (.int rr)) hh) args s 0 0 (fun q => sz ≤ q)) (F0 m 181 ls [.double u0, .int u1, va_rf u2]) := by
  unfold f_X9_to_181 at hF
  refine lv_iload X.1 X.2.1 dX9_to_181 (lv_at hl 5 rfl) ?_
  refine lv_dload X.1 X.2.1 dX9_to_183 (lv_at hl 3 rfl) ?_
  obtain ⟨a4, e5, hF⟩ := bind_out hF
  obtain ⟨x1, h2, e3, hF⟩ := bnd_out hF
  refine ab_callVi X S e5 (c_X9_goes l D cA sz e3) rfl (by decide) mi_X9_goes lm_X9_370 li_yX9_goes ls_yX9_goes (As := [.int u1, .double u0, .int v11, .double v6]) (rest := []) rfl ⟨by decide, by decide⟩ ⟨(by decide), (by decide)⟩ hl.1 rfl (by simp [ab_cat, ab_cI, ab_cJ, ab_cD, ab_cF]) dX9_to_185 (fun H1 locs1 S => ?_)
  refine lv_istore (lv' := [(12, .int x1), (0, va_rf v0), (1, .int v1), (5, .int v5), (6, .double v6), (10, .int v10), (11, .int v11)]) X.1 X.2.1 dX9_to_188 hl (by decide) (by simp [ab_cat, ab_cI, ab_cJ, ab_cD, ab_cF]) (fun ls hl => ?_)
  refine lv_iload X.1 X.2.1 dX9_to_190 (lv_at hl 0 rfl) ?_
  refine lv_if_ge (tgt := 205) X.1 X.2.1 dX9_to_192 (by decide) (fun c6 => ?_) (fun c6 => ?_)
  · have hF := ab_pos c6 hF
    refine lv_iinc (v := v10 + 1) (lv' := [(10, .int (v10 + 1)), (12, .int x1), (0, va_rf v0), (1, .int v1), (5, .int v5), (6, .double v6), (11, .int v11)]) X.1 X.2.1 dX9_to_205 hl (k := 5) rfl (by rfl) (by decide) (by simp [ab_cat, ab_cI, ab_cJ, ab_cD, ab_cF]) (fun ls hl => ?_)
    refine lv_dload X.1 X.2.1 dX9_to_208 (lv_at hl 5 rfl) ?_
    refine ab_aload_n X dX9_to_210 rfl (lv_at hl 2 rfl) ?_
    refine ab_getR X S hF fi_9_25 lf_X9_83 dX9_to_211 (fun x7 hF => ?_)
    refine lv_iload_n X.1 X.2.1 dX9_to_214 rfl (lv_at hl 3 rfl) ?_
    refine ab_aldD X S hF dX9_to_215 (fun x8 hF => ?_)
    obtain ⟨x9, ev, ne, hF⟩ := ab_fopx hF
    refine lv_dsub X.1 X.2.1 dX9_to_216 ne ?_
    rw [ev]
    refine lv_dstore (lv' := [(8, .double x9), (10, .int (v10 + 1)), (12, .int x1), (0, va_rf v0), (1, .int v1), (5, .int v5), (6, .double v6), (11, .int v11)]) X.1 X.2.1 dX9_to_217 hl (by decide) (by simp [ab_cat, ab_cI, ab_cJ, ab_cD, ab_cF]) (fun ls hl => ?_)
    refine lv_goto (tgt := 115) X.1 X.2.1 dX9_to_219 (by decide) ?_
    exact hk_115 _ _ _ _ _ _ _ _ _ _ S (lv_sub hl [3, 4, 5, 6, 0, 1] rfl) hF
  · have hF := ab_neg c6 hF
    refine ab_aload_n X dX9_to_195 rfl (lv_at hl 1 rfl) ?_
    refine lv_bipush (v := 8) X.1 X.2.1 dX9_to_196 (by decide) ?_
    refine lv_iload_n X.1 X.2.1 dX9_to_198 rfl (lv_at hl 2 rfl) ?_
    obtain ⟨a13, e14, hF⟩ := bind_out hF
    obtain ⟨x10, h11, e12, hF⟩ := bnd_out hF
    refine ab_callVv X S e14 (c_X9_copies l D cA sz e12) rfl (by decide) mi_X9_copies lm_X9_374 li_yX9_copies ls_yX9_copies (As := [.int 8, .int v1]) (rest := []) rfl ⟨by decide, by decide⟩ ⟨(by decide), (by decide)⟩ hl.1 rfl (by simp [ab_cat, ab_cI, ab_cJ, ab_cD, ab_cF]) dX9_to_199 (fun H1 locs1 S => ?_)
    refine lv_iload X.1 X.2.1 dX9_to_202 (lv_at hl 0 rfl) ?_
    exact ab_iret X S hr hF dX9_to_204
def f_X9_to_161 (k_115 : Option Nat → Int32 → Int32 → UInt64 → UInt64 → Int32 → Hp → Option (Int32 × Hp)) (v0 : Option Nat) (v1 : Int32) (v5 : Int32) (v6 : UInt64) (v8 : UInt64) (v10 : Int32) (u0 : Int32) (h : Hp) : Option (Int32 × Hp) :=
  if u0 = 0 then
    (getR h v0 9 26).bind fun x2 =>
    (aldD h x2 v1).bind fun x3 =>
    f_X9_to_181 k_115 v0 v1 v5 v6 v10 u0 x3 v1 v0 h
  else
    f_X9_to_181 k_115 v0 v1 v5 v6 v10 u0 v8 v1 v0 h
set_option maxHeartbeats 4000000 in
set_option maxRecDepth 100000 in
theorem w_X9_to_161 {p : Program} {l : Launch} {e : Env} {s : State} {m : MethodId} {args : Array Value} {below : List Frame} {meth : Method} {c : Code} {D : va_G} {cA : Nat → ClassId} {sz : Nat} {rr : Int32} {hh : Hp} {k_115 : Option Nat → Int32 → Int32 → UInt64 → UInt64 → Int32 → Hp → Option (Int32 × Hp)} (X : ab_X p s m args meth c cX9_to 13 RX9 D cA sz) (hr : meth.sig.returnType = (some .int)) (hk_115 : ∀ (v0 : Option Nat) (v1 : Int32) (v5 : Int32) (v6 : UInt64) (v8 : UInt64) (v10 : Int32) (h : Hp) (H : Heap) (locs : List Loc) (ls : Array Slot), ab_H D cA sz h s H locs → lv_has ls 13 [(0, va_rf v0), (1, .int v1), (5, .int v5), (6, .double v6), (8, .double v8), (10, .int v10)] → k_115 v0 v1 v5 v6 v8 v10 h = some (rr, hh) → W p l e (ab_rm 9 0 0) s m args below meth c H locs 0 0 (MQ below (ab_Q D cA sz (some (.int rr)) hh) args s 0 0 (fun q => sz ≤ q)) (F0 m 115 ls [])) {H : Heap} {locs : List Loc} {ls : Array Slot} {v0 : Option Nat} {v1 : Int32} {v5 : Int32} {v6 : UInt64} {v8 : UInt64} {v10 : Int32} {u0 : Int32} {h : Hp} (S : ab_H D cA sz h s H locs) (hl : lv_has ls 13 [(0, va_rf v0), (1, .int v1), (5, .int v5), (6, .double v6), (8, .double v8), (10, .int v10)]) (hF : f_X9_to_161 k_115 v0 v1 v5 v6 v8 v10 u0 h = some (rr, hh)) : W p l e (ab_rm 9 0 0) s m args below meth c H locs 0 0 (MQ below (ab_Q D cA sz (some (.int rr)) hh) args s 0 0 (fun q => sz ≤ q)) (F0 m 161 ls [.int u0]) := by
  unfold f_X9_to_161 at hF
  refine lv_istore (lv' := [(11, .int u0), (0, va_rf v0), (1, .int v1), (5, .int v5), (6, .double v6), (8, .double v8), (10, .int v10)]) X.1 X.2.1 dX9_to_161 hl (by decide) (by simp [ab_cat, ab_cI, ab_cJ, ab_cD, ab_cF]) (fun ls hl => ?_)
  refine ab_aload_n X dX9_to_163 rfl (lv_at hl 1 rfl) ?_
  refine lv_iload_n X.1 X.2.1 dX9_to_164 rfl (lv_at hl 2 rfl) ?_
  refine lv_iload X.1 X.2.1 dX9_to_165 (lv_at hl 0 rfl) ?_
  refine lv_if_eq (tgt := 175) X.1 X.2.1 dX9_to_167 (by decide) (fun c1 => ?_) (fun c1 => ?_)
  · have hF := ab_pos c1 hF
    refine ab_aload_n X dX9_to_175 rfl (lv_at hl 1 rfl) ?_
    refine ab_getR X S hF fi_9_26 lf_X9_86 dX9_to_176 (fun x2 hF => ?_)
    refine lv_iload_n X.1 X.2.1 dX9_to_179 rfl (lv_at hl 2 rfl) ?_
    refine ab_aldD X S hF dX9_to_180 (fun x3 hF => ?_)
    exact w_X9_to_181 X hr hk_115 S (lv_sub hl [1, 2, 3, 4, 6, 0] rfl) hF
  · have hF := ab_neg c1 hF
    refine lv_dload X.1 X.2.1 dX9_to_170 (lv_at hl 5 rfl) ?_
    refine lv_goto (tgt := 181) X.1 X.2.1 dX9_to_172 (by decide) ?_
    exact w_X9_to_181 X hr hk_115 S (lv_sub hl [1, 2, 3, 4, 6, 0] rfl) hF
def f_X9_to_115  : Nat → Option Nat → Int32 → Int32 → UInt64 → UInt64 → Int32 → Hp → Option (Int32 × Hp)
  | 0, _, _, _, _, _, _, _ => none
  | n + 1, v0, v1, v5, v6, v8, v10, h => if (Op.cmpValue (FP.dcmp v8 FP.dconst0) CmpOp.l) = 0 then
      f_X9_to_222 v10 h
    else
      if v5 ≤ v10 then
        f_X9_to_222 v10 h
      else
        (getR h v0 9 22).bind fun x3 =>
        (aldI h x3 12 v1).bind fun x4 =>
        if ¬ x4 = 0 then
          f_X9_to_222 v10 h
        else
          bnd (f_X9_size v8 h) fun x6 h7 =>
          (getR h7 v0 9 26).bind fun x9 =>
          (aldD h7 x9 v1).bind fun x10 =>
          bnd (f_X9_size x10 h7) fun x11 h12 =>
          if 0 < (Op.cmpValue (FP.dcmp x6 x11) CmpOp.g) then
            f_X9_to_161 (f_X9_to_115 n) v0 v1 v5 v6 v8 v10 0 h12
          else
            f_X9_to_161 (f_X9_to_115 n) v0 v1 v5 v6 v8 v10 1 h12
set_option maxHeartbeats 4000000 in
set_option maxRecDepth 100000 in
theorem w_X9_to_115 {p : Program} {l : Launch} {e : Env} {s : State} {m : MethodId} {args : Array Value} {below : List Frame} {meth : Method} {c : Code} {D : va_G} {cA : Nat → ClassId} {sz : Nat} {rr : Int32} {hh : Hp}  (X : ab_X p s m args meth c cX9_to 13 RX9 D cA sz) (hr : meth.sig.returnType = (some .int))  (n : Nat) : ∀ (v0 : Option Nat) (v1 : Int32) (v5 : Int32) (v6 : UInt64) (v8 : UInt64) (v10 : Int32) (h : Hp) (H : Heap) (locs : List Loc) (ls : Array Slot), ab_H D cA sz h s H locs → lv_has ls 13 [(0, va_rf v0), (1, .int v1), (5, .int v5), (6, .double v6), (8, .double v8), (10, .int v10)] → f_X9_to_115 n v0 v1 v5 v6 v8 v10 h = some (rr, hh) → W p l e (ab_rm 9 0 0) s m args below meth c H locs 0 0 (MQ below (ab_Q D cA sz (some (.int rr)) hh) args s 0 0 (fun q => sz ≤ q)) (F0 m 115 ls []) := by
  induction n with
  | zero => intro v0 v1 v5 v6 v8 v10 h H locs ls S hl hF; cases hF
  | succ n ih =>
    intro v0 v1 v5 v6 v8 v10 h H locs ls S hl hF
    rw [f_X9_to_115] at hF
    refine lv_dload X.1 X.2.1 dX9_to_115 (lv_at hl 4 rfl) ?_
    refine lv_dconst0 X.1 X.2.1 dX9_to_117 ?_
    refine lv_dcmp X.1 X.2.1 dX9_to_118 ?_
    refine lv_if_eq (tgt := 222) X.1 X.2.1 dX9_to_119 (by decide) (fun c1 => ?_) (fun c1 => ?_)
    · have hF := ab_pos c1 hF
      exact w_X9_to_222 X hr  S (lv_sub hl [5] rfl) hF
    · have hF := ab_neg c1 hF
      refine lv_iload X.1 X.2.1 dX9_to_122 (lv_at hl 5 rfl) ?_
      refine lv_iload X.1 X.2.1 dX9_to_124 (lv_at hl 2 rfl) ?_
      refine lv_icmp_ge (tgt := 222) X.1 X.2.1 dX9_to_126 (by decide) (fun c2 => ?_) (fun c2 => ?_)
      · have hF := ab_pos c2 hF
        exact w_X9_to_222 X hr  S (lv_sub hl [5] rfl) hF
      · have hF := ab_neg c2 hF
        refine ab_aload_n X dX9_to_129 rfl (lv_at hl 0 rfl) ?_
        refine ab_getR X S hF fi_9_22 lf_X9_73 dX9_to_130 (fun x3 hF => ?_)
        refine lv_iload_n X.1 X.2.1 dX9_to_133 rfl (lv_at hl 1 rfl) ?_
        refine ab_aldZ X S hF dX9_to_134 (fun x4 hF => ?_)
        refine lv_if_ne (tgt := 222) X.1 X.2.1 dX9_to_135 (by decide) (fun c5 => ?_) (fun c5 => ?_)
        · have hF := ab_pos c5 hF
          exact w_X9_to_222 X hr  S (lv_sub hl [5] rfl) hF
        · have hF := ab_neg (fun q => q c5) hF
          refine lv_dload X.1 X.2.1 dX9_to_138 (lv_at hl 4 rfl) ?_
          obtain ⟨x6, h7, e8, hF⟩ := bnd_out hF
          refine ab_callSd X S (c_X9_size l D cA sz e8) mi_X9_size lm_X9_221 lt_yX9_size (As := [.double v8]) (rest := []) rfl ⟨by decide, by decide⟩ ⟨(by decide), (by decide)⟩ hl.1 rfl (by simp [ab_cat, ab_cI, ab_cJ, ab_cD, ab_cF]) dX9_to_140 (fun H1 locs1 S => ?_)
          refine ab_aload_n X dX9_to_143 rfl (lv_at hl 0 rfl) ?_
          refine ab_getR X S hF fi_9_26 lf_X9_86 dX9_to_144 (fun x9 hF => ?_)
          refine lv_iload_n X.1 X.2.1 dX9_to_147 rfl (lv_at hl 1 rfl) ?_
          refine ab_aldD X S hF dX9_to_148 (fun x10 hF => ?_)
          obtain ⟨x11, h12, e13, hF⟩ := bnd_out hF
          refine ab_callSd X S (c_X9_size l D cA sz e13) mi_X9_size lm_X9_221 lt_yX9_size (As := [.double x10]) (rest := [.double x6]) rfl ⟨by decide, by decide⟩ ⟨(by decide), (by decide)⟩ hl.1 rfl (by simp [ab_cat, ab_cI, ab_cJ, ab_cD, ab_cF]) dX9_to_149 (fun H1 locs1 S => ?_)
          refine lv_dcmp X.1 X.2.1 dX9_to_152 ?_
          refine lv_if_gt (tgt := 160) X.1 X.2.1 dX9_to_153 (by decide) (fun c14 => ?_) (fun c14 => ?_)
          · have hF := ab_pos c14 hF
            refine lv_iconst (v := 0) X.1 X.2.1 dX9_to_160 (by decide) ?_
            exact w_X9_to_161 X hr ih S (lv_sub hl [0, 1, 2, 3, 4, 5] rfl) hF
          · have hF := ab_neg c14 hF
            refine lv_iconst (v := 1) X.1 X.2.1 dX9_to_156 (by decide) ?_
            refine lv_goto (tgt := 161) X.1 X.2.1 dX9_to_157 (by decide) ?_
            exact w_X9_to_161 X hr ih S (lv_sub hl [0, 1, 2, 3, 4, 5] rfl) hF
def f_X9_to_105  (v0 : Option Nat) (v1 : Int32) (v5 : Int32) (v6 : UInt64) (v8 : UInt64) (h : Hp) : Option (Int32 × Hp) :=
  (ab_ck h v0 (9, 0)).bind fun a4 =>
  bnd (f_X9_copies a4 v1 8 h) fun _ h2 =>
  f_X9_to_115 fuelN v0 v1 v5 v6 v8 0 h2
set_option maxHeartbeats 4000000 in
set_option maxRecDepth 100000 in
theorem w_X9_to_105 {p : Program} {l : Launch} {e : Env} {s : State} {m : MethodId} {args : Array Value} {below : List Frame} {meth : Method} {c : Code} {D : va_G} {cA : Nat → ClassId} {sz : Nat} {rr : Int32} {hh : Hp}  (X : ab_X p s m args meth c cX9_to 13 RX9 D cA sz) (hr : meth.sig.returnType = (some .int))  {H : Heap} {locs : List Loc} {ls : Array Slot} {v0 : Option Nat} {v1 : Int32} {v5 : Int32} {v6 : UInt64} {v8 : UInt64} {h : Hp} (S : ab_H D cA sz h s H locs) (hl : lv_has ls 13 [(0, va_rf v0), (1, .int v1), (5, .int v5), (6, .double v6), (8, .double v8)]) (hF : f_X9_to_105 v0 v1 v5 v6 v8 h = some (rr, hh)) : W p l e (ab_rm 9 0 0) s m args below meth c H locs 0 0 (MQ below (ab_Q D cA sz (some (.int rr)) hh) args s 0 0 (fun q => sz ≤ q)) (F0 m 105 ls []) := by
  unfold f_X9_to_105 at hF
  refine ab_aload_n X dX9_to_105 rfl (lv_at hl 0 rfl) ?_
  refine lv_iload_n X.1 X.2.1 dX9_to_106 rfl (lv_at hl 1 rfl) ?_
  refine lv_bipush (v := 8) X.1 X.2.1 dX9_to_107 (by decide) ?_
  obtain ⟨a4, e5, hF⟩ := bind_out hF
  obtain ⟨x1, h2, e3, hF⟩ := bnd_out hF
  refine ab_callVv X S e5 (c_X9_copies l D cA sz e3) rfl (by decide) mi_X9_copies lm_X9_374 li_yX9_copies ls_yX9_copies (As := [.int v1, .int 8]) (rest := []) rfl ⟨by decide, by decide⟩ ⟨(by decide), (by decide)⟩ hl.1 rfl (by simp [ab_cat, ab_cI, ab_cJ, ab_cD, ab_cF]) dX9_to_109 (fun H1 locs1 S => ?_)
  refine lv_iconst (v := 0) X.1 X.2.1 dX9_to_112 (by decide) ?_
  refine lv_istore (lv' := [(10, .int 0), (0, va_rf v0), (1, .int v1), (5, .int v5), (6, .double v6), (8, .double v8)]) X.1 X.2.1 dX9_to_113 hl (by decide) (by simp [ab_cat, ab_cI, ab_cJ, ab_cD, ab_cF]) (fun ls hl => ?_)
  exact w_X9_to_115 X hr  fuelN _ _ _ _ _ _ _ _ _ _ S (lv_sub hl [1, 2, 3, 4, 5, 0] rfl) hF
def f_X9_to_99  (v0 : Option Nat) (v1 : Int32) (v5 : Int32) (v6 : UInt64) (v8 : UInt64) (u0 : Int32) (u1 : Int32) (h : Hp) : Option (Int32 × Hp) :=
  if u1 = u0 then
    f_X9_to_105 v0 v1 v5 v6 v8 h
  else
    some ((-2), h)
set_option maxHeartbeats 4000000 in
set_option maxRecDepth 100000 in
theorem w_X9_to_99 {p : Program} {l : Launch} {e : Env} {s : State} {m : MethodId} {args : Array Value} {below : List Frame} {meth : Method} {c : Code} {D : va_G} {cA : Nat → ClassId} {sz : Nat} {rr : Int32} {hh : Hp}  (X : ab_X p s m args meth c cX9_to 13 RX9 D cA sz) (hr : meth.sig.returnType = (some .int))  {H : Heap} {locs : List Loc} {ls : Array Slot} {v0 : Option Nat} {v1 : Int32} {v5 : Int32} {v6 : UInt64} {v8 : UInt64} {u0 : Int32} {u1 : Int32} {h : Hp} (S : ab_H D cA sz h s H locs) (hl : lv_has ls 13 [(0, va_rf v0), (1, .int v1), (5, .int v5), (6, .double v6), (8, .double v8)]) (hF : f_X9_to_99 v0 v1 v5 v6 v8 u0 u1 h = some (rr, hh)) : W p l e (ab_rm 9 0 0) s m args below meth c H locs 0 0 (MQ below (ab_Q D cA sz (some (.int rr)) hh) args s 0 0 (fun q => sz ≤ q)) (F0 m 99 ls [.int u0, .int u1]) := by
  unfold f_X9_to_99 at hF
  refine lv_icmp_eq (tgt := 105) X.1 X.2.1 dX9_to_99 (by decide) (fun c1 => ?_) (fun c1 => ?_)
  · have hF := ab_pos c1 hF
    exact w_X9_to_105 X hr  S (lv_sub hl [0, 1, 2, 3, 4] rfl) hF
  · have hF := ab_neg c1 hF
    refine lv_bipush (v := (-2)) X.1 X.2.1 dX9_to_102 (by decide) ?_
    exact ab_iret X S hr hF dX9_to_104
def f_X9_to_83  (v0 : Option Nat) (v1 : Int32) (v5 : Int32) (v6 : UInt64) (v8 : UInt64) (u0 : Int32) (h : Hp) : Option (Int32 × Hp) :=
  (getR h v0 9 26).bind fun x1 =>
  (aldD h x1 v1).bind fun x2 =>
  if 0 ≤ (Op.cmpValue (FP.dcmp x2 FP.dconst0) CmpOp.g) then
    f_X9_to_99 v0 v1 v5 v6 v8 0 u0 h
  else
    f_X9_to_99 v0 v1 v5 v6 v8 1 u0 h
set_option maxHeartbeats 4000000 in
set_option maxRecDepth 100000 in
theorem w_X9_to_83 {p : Program} {l : Launch} {e : Env} {s : State} {m : MethodId} {args : Array Value} {below : List Frame} {meth : Method} {c : Code} {D : va_G} {cA : Nat → ClassId} {sz : Nat} {rr : Int32} {hh : Hp}  (X : ab_X p s m args meth c cX9_to 13 RX9 D cA sz) (hr : meth.sig.returnType = (some .int))  {H : Heap} {locs : List Loc} {ls : Array Slot} {v0 : Option Nat} {v1 : Int32} {v5 : Int32} {v6 : UInt64} {v8 : UInt64} {u0 : Int32} {h : Hp} (S : ab_H D cA sz h s H locs) (hl : lv_has ls 13 [(0, va_rf v0), (1, .int v1), (5, .int v5), (6, .double v6), (8, .double v8)]) (hF : f_X9_to_83 v0 v1 v5 v6 v8 u0 h = some (rr, hh)) : W p l e (ab_rm 9 0 0) s m args below meth c H locs 0 0 (MQ below (ab_Q D cA sz (some (.int rr)) hh) args s 0 0 (fun q => sz ≤ q)) (F0 m 83 ls [.int u0]) := by
  unfold f_X9_to_83 at hF
  refine ab_aload_n X dX9_to_83 rfl (lv_at hl 0 rfl) ?_
  refine ab_getR X S hF fi_9_26 lf_X9_86 dX9_to_84 (fun x1 hF => ?_)
  refine lv_iload_n X.1 X.2.1 dX9_to_87 rfl (lv_at hl 1 rfl) ?_
  refine ab_aldD X S hF dX9_to_88 (fun x2 hF => ?_)
  refine lv_dconst0 X.1 X.2.1 dX9_to_89 ?_
  refine lv_dcmp X.1 X.2.1 dX9_to_90 ?_
  refine lv_if_ge (tgt := 98) X.1 X.2.1 dX9_to_91 (by decide) (fun c3 => ?_) (fun c3 => ?_)
  · have hF := ab_pos c3 hF
    refine lv_iconst (v := 0) X.1 X.2.1 dX9_to_98 (by decide) ?_
    exact w_X9_to_99 X hr  S (lv_sub hl [0, 1, 2, 3, 4] rfl) hF
  · have hF := ab_neg c3 hF
    refine lv_iconst (v := 1) X.1 X.2.1 dX9_to_94 (by decide) ?_
    refine lv_goto (tgt := 99) X.1 X.2.1 dX9_to_95 (by decide) ?_
    exact w_X9_to_99 X hr  S (lv_sub hl [0, 1, 2, 3, 4] rfl) hF
def f_X9_to (this : Nat) (p0 : Int32) (p1 : Int64) (p2 : Int32) (p3 : Int32) (h : Hp) : Option (Int32 × Hp) :=
  (ab_ck h (some this) (9, 0)).bind fun a4 =>
  bnd (f_X9_isRun a4 p0 h) fun x1 h2 =>
  if x1 = 0 then
    f_X9_to_31 h2
  else
    bnd (f_X9_in p2 0 30 h2) fun x7 h8 =>
    if x7 = 0 then
      f_X9_to_31 h8
    else
      bnd (f_X9_in p3 1 200 h8) fun x11 h12 =>
      if ¬ x11 = 0 then
        (getR h12 (some this) 9 22).bind fun x15 =>
        (aldI h12 x15 12 p0).bind fun x16 =>
        if x16 = 0 then
          bnd (f_X9_number p1 p2 h12) fun x18 h19 =>
          (getR h19 (some this) 9 25).bind fun x21 =>
          (aldD h19 x21 p0).bind fun x22 =>
          (fop (FP.dsub x18 x22)).bind fun x23 =>
          if (Op.cmpValue (FP.dcmp x23 FP.dconst0) CmpOp.l) = 0 then
            f_X9_to_105 (some this) p0 p3 x18 x23 h19
          else
            if 0 ≤ (Op.cmpValue (FP.dcmp x23 FP.dconst0) CmpOp.g) then
              f_X9_to_83 (some this) p0 p3 x18 x23 0 h19
            else
              f_X9_to_83 (some this) p0 p3 x18 x23 1 h19
        else
          some ((-2), h12)
      else
        f_X9_to_31 h12
theorem mi_X9_to : ab_MI yX9_to cX9_to 13 (some .int) 4 := ⟨lc_yX9_to, lz_RX9, by decide, by decide, by decide +kernel⟩
set_option maxHeartbeats 4000000 in
set_option maxRecDepth 100000 in
theorem c_X9_to (l : Launch) (D : va_G) (cA : Nat → ClassId) (sz : Nat) {this : Nat} {p0 : Int32} {p1 : Int64} {p2 : Int32} {p3 : Int32} {h hh : Hp} {rr : Int32} (hF : f_X9_to this p0 p1 p2 p3 h = some (rr, hh)) : ab_C l D cA sz yX9_to cX9_to 13 (some .int) 9 0 0 [.ref this, .int p0, .long p1, .int p2, .int p3] h (some (.int rr)) hh := by
  refine Met.ofW (cc := cX9_to) (maxL := 13) (ret := (some .int)) (by decide) rfl ?_
  intro p e s m args below meth c s₁ B hml hv
  obtain ⟨rfl, hT, hR⟩ := hv
  have X : ab_X p s m _ meth c cX9_to 13 RX9 D cA sz := (ab_enter B hml hT hR).1
  have S := (ab_enter B hml hT hR).2
  have hr := B.returns
  obtain ⟨ls, hls, hl⟩ := ab_entry m [.ref this, .int p0, .long p1, .int p2, .int p3] 13 (lv := [(0, .ref this), (1, .int p0), (2, .long p1), (4, .int p2), (5, .int p3)]) (by simp [lg_sl, ab_cat, ab_cI, ab_cJ, ab_cD, ab_cF, ab_cA]) (by simp [lv_args, ab_cat, ab_cI, ab_cJ, ab_cD, ab_cF, ab_cA])
  rw [hls]
  have hl : lv_has ls 13 [(0, va_rf (some this)), (1, .int p0), (2, .long p1), (4, .int p2), (5, .int p3)] := hl
  unfold f_X9_to at hF
  show W p l e (ab_rm 9 0 0) s m _ below meth c s.heap [] 0 0 _ _
  refine ab_aload_n X dX9_to_0 rfl (lv_at hl 0 rfl) ?_
  refine lv_iload_n X.1 X.2.1 dX9_to_1 rfl (lv_at hl 1 rfl) ?_
  obtain ⟨a4, e5, hF⟩ := bind_out hF
  obtain ⟨x1, h2, e3, hF⟩ := bnd_out hF
  refine ab_callVi X S e5 (c_X9_isRun l D cA sz e3) rfl (by decide) mi_X9_isRun lm_X9_366 li_yX9_isRun ls_yX9_isRun (As := [.int p0]) (rest := []) rfl ⟨by decide, by decide⟩ ⟨(by decide), (by decide)⟩ hl.1 rfl (by simp [ab_cat, ab_cI, ab_cJ, ab_cD, ab_cF]) dX9_to_2 (fun H1 locs1 S => ?_)
  refine lv_if_eq (tgt := 31) X.1 X.2.1 dX9_to_5 (by decide) (fun c6 => ?_) (fun c6 => ?_)
  · have hF := ab_pos c6 hF
    exact w_X9_to_31 X hr  S (lv_sub hl [] rfl) hF
  · have hF := ab_neg c6 hF
    refine lv_iload X.1 X.2.1 dX9_to_8 (lv_at hl 3 rfl) ?_
    refine lv_iconst (v := 0) X.1 X.2.1 dX9_to_10 (by decide) ?_
    refine lv_bipush (v := 30) X.1 X.2.1 dX9_to_11 (by decide) ?_
    obtain ⟨x7, h8, e9, hF⟩ := bnd_out hF
    refine ab_callSi X S (c_X9_in l D cA sz e9) mi_X9_in lm_X9_343 lt_yX9_in (As := [.int p2, .int 0, .int 30]) (rest := []) rfl ⟨by decide, by decide⟩ ⟨(by decide), (by decide)⟩ hl.1 rfl (by simp [ab_cat, ab_cI, ab_cJ, ab_cD, ab_cF]) dX9_to_13 (fun H1 locs1 S => ?_)
    refine lv_if_eq (tgt := 31) X.1 X.2.1 dX9_to_16 (by decide) (fun c10 => ?_) (fun c10 => ?_)
    · have hF := ab_pos c10 hF
      exact w_X9_to_31 X hr  S (lv_sub hl [] rfl) hF
    · have hF := ab_neg c10 hF
      refine lv_iload X.1 X.2.1 dX9_to_19 (lv_at hl 4 rfl) ?_
      refine lv_iconst (v := 1) X.1 X.2.1 dX9_to_21 (by decide) ?_
      refine lv_sipush (v := 200) X.1 X.2.1 dX9_to_22 (by decide) ?_
      obtain ⟨x11, h12, e13, hF⟩ := bnd_out hF
      refine ab_callSi X S (c_X9_in l D cA sz e13) mi_X9_in lm_X9_343 lt_yX9_in (As := [.int p3, .int 1, .int 200]) (rest := []) rfl ⟨by decide, by decide⟩ ⟨(by decide), (by decide)⟩ hl.1 rfl (by simp [ab_cat, ab_cI, ab_cJ, ab_cD, ab_cF]) dX9_to_25 (fun H1 locs1 S => ?_)
      refine lv_if_ne (tgt := 33) X.1 X.2.1 dX9_to_28 (by decide) (fun c14 => ?_) (fun c14 => ?_)
      · have hF := ab_pos c14 hF
        refine ab_aload_n X dX9_to_33 rfl (lv_at hl 0 rfl) ?_
        refine ab_getR X S hF fi_9_22 lf_X9_73 dX9_to_34 (fun x15 hF => ?_)
        refine lv_iload_n X.1 X.2.1 dX9_to_37 rfl (lv_at hl 1 rfl) ?_
        refine ab_aldZ X S hF dX9_to_38 (fun x16 hF => ?_)
        refine lv_if_eq (tgt := 45) X.1 X.2.1 dX9_to_39 (by decide) (fun c17 => ?_) (fun c17 => ?_)
        · have hF := ab_pos c17 hF
          refine lv_lload_n X.1 X.2.1 dX9_to_45 rfl (lv_at hl 2 rfl) ?_
          refine lv_iload X.1 X.2.1 dX9_to_46 (lv_at hl 3 rfl) ?_
          obtain ⟨x18, h19, e20, hF⟩ := bnd_out hF
          refine ab_callSd X S (c_X9_number l D cA sz e20) mi_X9_number lm_X9_354 lt_yX9_number (As := [.long p1, .int p2]) (rest := []) rfl ⟨by decide, by decide⟩ ⟨(by decide), (by decide)⟩ hl.1 rfl (by simp [ab_cat, ab_cI, ab_cJ, ab_cD, ab_cF]) dX9_to_48 (fun H1 locs1 S => ?_)
          refine lv_dstore (lv' := [(6, .double x18), (0, va_rf (some this)), (1, .int p0), (2, .long p1), (4, .int p2), (5, .int p3)]) X.1 X.2.1 dX9_to_51 hl (by decide) (by simp [ab_cat, ab_cI, ab_cJ, ab_cD, ab_cF]) (fun ls hl => ?_)
          refine lv_dload X.1 X.2.1 dX9_to_53 (lv_at hl 0 rfl) ?_
          refine ab_aload_n X dX9_to_55 rfl (lv_at hl 1 rfl) ?_
          refine ab_getR X S hF fi_9_25 lf_X9_83 dX9_to_56 (fun x21 hF => ?_)
          refine lv_iload_n X.1 X.2.1 dX9_to_59 rfl (lv_at hl 2 rfl) ?_
          refine ab_aldD X S hF dX9_to_60 (fun x22 hF => ?_)
          obtain ⟨x23, ev, ne, hF⟩ := ab_fopx hF
          refine lv_dsub X.1 X.2.1 dX9_to_61 ne ?_
          rw [ev]
          refine lv_dstore (lv' := [(8, .double x23), (6, .double x18), (0, va_rf (some this)), (1, .int p0), (2, .long p1), (4, .int p2), (5, .int p3)]) X.1 X.2.1 dX9_to_62 hl (by decide) (by simp [ab_cat, ab_cI, ab_cJ, ab_cD, ab_cF]) (fun ls hl => ?_)
          refine lv_dload X.1 X.2.1 dX9_to_64 (lv_at hl 0 rfl) ?_
          refine lv_dconst0 X.1 X.2.1 dX9_to_66 ?_
          refine lv_dcmp X.1 X.2.1 dX9_to_67 ?_
          refine lv_if_eq (tgt := 105) X.1 X.2.1 dX9_to_68 (by decide) (fun c24 => ?_) (fun c24 => ?_)
          · have hF := ab_pos c24 hF
            exact w_X9_to_105 X hr  S (lv_sub hl [2, 3, 6, 1, 0] rfl) hF
          · have hF := ab_neg c24 hF
            refine lv_dload X.1 X.2.1 dX9_to_71 (lv_at hl 0 rfl) ?_
            refine lv_dconst0 X.1 X.2.1 dX9_to_73 ?_
            refine lv_dcmp X.1 X.2.1 dX9_to_74 ?_
            refine lv_if_ge (tgt := 82) X.1 X.2.1 dX9_to_75 (by decide) (fun c25 => ?_) (fun c25 => ?_)
            · have hF := ab_pos c25 hF
              refine lv_iconst (v := 0) X.1 X.2.1 dX9_to_82 (by decide) ?_
              exact w_X9_to_83 X hr  S (lv_sub hl [2, 3, 6, 1, 0] rfl) hF
            · have hF := ab_neg c25 hF
              refine lv_iconst (v := 1) X.1 X.2.1 dX9_to_78 (by decide) ?_
              refine lv_goto (tgt := 83) X.1 X.2.1 dX9_to_79 (by decide) ?_
              exact w_X9_to_83 X hr  S (lv_sub hl [2, 3, 6, 1, 0] rfl) hF
        · have hF := ab_neg c17 hF
          refine lv_bipush (v := (-2)) X.1 X.2.1 dX9_to_42 (by decide) ?_
          exact ab_iret X S hr hF dX9_to_44
      · have hF := ab_neg (fun q => q c14) hF
        exact w_X9_to_31 X hr  S (lv_sub hl [] rfl) hF
def f_X4_take (this : Nat) (p0 : Option Nat) (p1 : Int32) (h : Hp) : Option (Unit × Hp) :=
  (getR h (some this) 4 11).bind fun x1 =>
  (ab_ck h x1 (6, 0)).bind fun a5 =>
  bnd (f_X6_copy a5 p0 h) fun _ h3 =>
  (getR h3 (some this) 4 11).bind fun x7 =>
  (ab_ck h3 x7 (6, 0)).bind fun a11 =>
  bnd (f_X6_reckonEnd a11 h3) fun _ h9 =>
  (getR h9 (some this) 4 2).bind fun x13 =>
  (getR h9 (some this) 4 11).bind fun x14 =>
  (getR h9 x14 6 8).bind fun x15 =>
  (ab_ck h9 x13 (3, 0)).bind fun a19 =>
  bnd (f_X3_copy a19 x15 h9) fun _ h17 =>
  (getR h17 (some this) 4 11).bind fun x21 =>
  (getD h17 x21 6 5).bind fun x22 =>
  (putD h17 (some this) 4 1 x22).bind fun h23 =>
  (getI h23 (some this) 4 8).bind fun x24 =>
  (putI h23 (some this) 4 8 (x24 + 1)).bind fun h25 =>
  (getI h25 (some this) 4 9).bind fun x26 =>
  (putI h25 (some this) 4 9 (x26 + p1)).bind fun h27 =>
  some ((), h27)
theorem mi_X4_take : ab_MI yX4_take cX4_take 3 none 2 := ⟨lc_yX4_take, lz_RX4, by decide, by decide, by decide +kernel⟩
set_option maxHeartbeats 4000000 in
set_option maxRecDepth 100000 in
theorem c_X4_take (l : Launch) (D : va_G) (cA : Nat → ClassId) (sz : Nat) {this : Nat} {p0 : Option Nat} {p1 : Int32} {h hh : Hp}  (hF : f_X4_take this p0 p1 h = some ((), hh)) : ab_C l D cA sz yX4_take cX4_take 3 none 4 0 0 [.ref this, va_rf p0, .int p1] h none hh := by
  refine Met.ofW (cc := cX4_take) (maxL := 3) (ret := none) (by decide) rfl ?_
  intro p e s m args below meth c s₁ B hml hv
  obtain ⟨rfl, hT, hR⟩ := hv
  have X : ab_X p s m _ meth c cX4_take 3 RX4 D cA sz := (ab_enter B hml hT hR).1
  have S := (ab_enter B hml hT hR).2
  have hr := B.returns
  obtain ⟨ls, hls, hl⟩ := ab_entry m [.ref this, va_rf p0, .int p1] 3 (lv := [(0, .ref this), (1, va_rf p0), (2, .int p1)]) (by simp [lg_sl, ab_cat, ab_cI, ab_cJ, ab_cD, ab_cF, ab_cA]) (by simp [lv_args, ab_cat, ab_cI, ab_cJ, ab_cD, ab_cF, ab_cA])
  rw [hls]
  have hl : lv_has ls 3 [(0, va_rf (some this)), (1, va_rf p0), (2, .int p1)] := hl
  unfold f_X4_take at hF
  show W p l e (ab_rm 4 0 0) s m _ below meth c s.heap [] 0 0 _ _
  refine ab_aload_n X dX4_take_0 rfl (lv_at hl 0 rfl) ?_
  refine ab_getR X S hF fi_4_11 lf_X4_57 dX4_take_1 (fun x1 hF => ?_)
  refine ab_aload_n X dX4_take_4 rfl (lv_at hl 1 rfl) ?_
  obtain ⟨a5, e6, hF⟩ := bind_out hF
  obtain ⟨x2, h3, e4, hF⟩ := bnd_out hF
  refine ab_callVv X S e6 (c_X6_copy l D cA sz e4) rfl (by decide) mi_X6_copy lm_X4_78 li_yX6_copy ls_yX6_copy (As := [va_rf p0]) (rest := []) rfl ⟨by decide, by decide⟩ ⟨(by decide), (by decide)⟩ hl.1 rfl (by simp [ab_cat, ab_cI, ab_cJ, ab_cD, ab_cF]) dX4_take_5 (fun H1 locs1 S => ?_)
  refine ab_aload_n X dX4_take_8 rfl (lv_at hl 0 rfl) ?_
  refine ab_getR X S hF fi_4_11 lf_X4_57 dX4_take_9 (fun x7 hF => ?_)
  obtain ⟨a11, e12, hF⟩ := bind_out hF
  obtain ⟨x8, h9, e10, hF⟩ := bnd_out hF
  refine ab_callVv X S e12 (c_X6_reckonEnd l D cA sz e10) rfl (by decide) mi_X6_reckonEnd lm_X4_81 li_yX6_reckonEnd ls_yX6_reckonEnd (As := []) (rest := []) rfl ⟨by decide, by decide⟩ ⟨(by decide), (by decide)⟩ hl.1 rfl (by simp [ab_cat, ab_cI, ab_cJ, ab_cD, ab_cF]) dX4_take_12 (fun H1 locs1 S => ?_)
  refine ab_aload_n X dX4_take_15 rfl (lv_at hl 0 rfl) ?_
  refine ab_getR X S hF fi_4_2 lf_X4_24 dX4_take_16 (fun x13 hF => ?_)
  refine ab_aload_n X dX4_take_19 rfl (lv_at hl 0 rfl) ?_
  refine ab_getR X S hF fi_4_11 lf_X4_57 dX4_take_20 (fun x14 hF => ?_)
  refine ab_getR X S hF fi_6_8 lf_X4_84 dX4_take_23 (fun x15 hF => ?_)
  obtain ⟨a19, e20, hF⟩ := bind_out hF
  obtain ⟨x16, h17, e18, hF⟩ := bnd_out hF
  refine ab_callVv X S e20 (c_X3_copy l D cA sz e18) rfl (by decide) mi_X3_copy lm_X4_61 li_yX3_copy ls_yX3_copy (As := [va_rf x15]) (rest := []) rfl ⟨by decide, by decide⟩ ⟨(by decide), (by decide)⟩ hl.1 rfl (by simp [ab_cat, ab_cI, ab_cJ, ab_cD, ab_cF]) dX4_take_26 (fun H1 locs1 S => ?_)
  refine ab_aload_n X dX4_take_29 rfl (lv_at hl 0 rfl) ?_
  refine ab_aload_n X dX4_take_30 rfl (lv_at hl 0 rfl) ?_
  refine ab_getR X S hF fi_4_11 lf_X4_57 dX4_take_31 (fun x21 hF => ?_)
  refine ab_getD X S hF fi_6_5 lf_X4_87 dX4_take_34 (fun x22 hF => ?_)
  refine ab_putD X S hF fi_4_1 ci_4 (Or.inl rfl) rfl lf_X4_15 dX4_take_37 (fun h23 H1 locs1 hF S => ?_)
  refine ab_aload_n X dX4_take_40 rfl (lv_at hl 0 rfl) ?_
  refine lv_dup X.1 X.2.1 dX4_take_41 (by simp [ab_cat, ab_cI, ab_cJ, ab_cD, ab_cF]) ?_
  refine ab_getI X S hF fi_4_8 lf_X4_69 dX4_take_42 (fun x24 hF => ?_)
  refine lv_iconst (v := 1) X.1 X.2.1 dX4_take_45 (by decide) ?_
  refine lv_iadd X.1 X.2.1 dX4_take_46 ?_
  refine ab_putI X S hF fi_4_8 ci_4 (Or.inl rfl) rfl lf_X4_69 dX4_take_47 (fun h25 H1 locs1 hF S => ?_)
  refine ab_aload_n X dX4_take_50 rfl (lv_at hl 0 rfl) ?_
  refine lv_dup X.1 X.2.1 dX4_take_51 (by simp [ab_cat, ab_cI, ab_cJ, ab_cD, ab_cF]) ?_
  refine ab_getI X S hF fi_4_9 lf_X4_72 dX4_take_52 (fun x26 hF => ?_)
  refine lv_iload_n X.1 X.2.1 dX4_take_55 rfl (lv_at hl 2 rfl) ?_
  refine lv_iadd X.1 X.2.1 dX4_take_56 ?_
  refine ab_putI X S hF fi_4_9 ci_4 (Or.inl rfl) rfl lf_X4_72 dX4_take_57 (fun h27 H1 locs1 hF S => ?_)
  exact ab_vret X S hr hF dX4_take_60
def f_X4_highOf_104  (u0 : UInt64) (h : Hp) : Option (UInt64 × Hp) :=
  some (u0, h)
set_option maxHeartbeats 4000000 in
set_option maxRecDepth 100000 in
theorem w_X4_highOf_104 {p : Program} {l : Launch} {e : Env} {s : State} {m : MethodId} {args : Array Value} {below : List Frame} {meth : Method} {c : Code} {D : va_G} {cA : Nat → ClassId} {sz : Nat} {rr : UInt64} {hh : Hp}  (X : ab_X p s m args meth c cX4_highOf 5 RX4 D cA sz) (hr : meth.sig.returnType = (some .double))  {H : Heap} {locs : List Loc} {ls : Array Slot} {u0 : UInt64} {h : Hp} (S : ab_H D cA sz h s H locs) (hl : lv_has ls 5 []) (hF : f_X4_highOf_104 u0 h = some (rr, hh)) : W p l e (ab_rm 4 0 0) s m args below meth c H locs 0 0 (MQ below (ab_Q D cA sz (some (.double rr)) hh) args s 0 0 (fun q => sz ≤ q)) (F0 m 104 ls [.double u0]) := by
  unfold f_X4_highOf_104 at hF
  exact ab_dret X S hr hF dX4_highOf_104
def f_X4_highOf (this : Nat) (p0 : Int32) (h : Hp) : Option (UInt64 × Hp) :=
  (getR h (some this) 4 10).bind fun x1 =>
  (getR h x1 0 1).bind fun x2 =>
  (aldI h x2 11 p0).bind fun x3 =>
  (getR h (some this) 4 0).bind fun x4 =>
  (getR h (some this) 4 11).bind fun x5 =>
  (getD h x5 6 3).bind fun x6 =>
  (getR h (some this) 4 11).bind fun x7 =>
  (getR h x7 6 6).bind fun x8 =>
  (ab_ck h x4 (1, 0)).bind fun a12 =>
  bnd (f_X1_reckonNodes a12 x6 x8 (x3 + 1) h) fun _ h10 =>
  (getR h10 (some this) 4 0).bind fun x14 =>
  (ab_ck h10 x14 (1, 0)).bind fun a18 =>
  bnd (f_X1_signOf a18 x3 h10) fun x15 h16 =>
  (getR h16 (some this) 4 0).bind fun x20 =>
  (getR h16 (some this) 4 11).bind fun x21 =>
  (getD h16 x21 6 5).bind fun x22 =>
  (getR h16 (some this) 4 11).bind fun x23 =>
  (getR h16 x23 6 8).bind fun x24 =>
  (ab_ck h16 x20 (1, 0)).bind fun a28 =>
  bnd (f_X1_reckonNodes a28 x22 x24 (x3 + 1) h16) fun _ h26 =>
  (getR h26 (some this) 4 10).bind fun x30 =>
  (getR h26 (some this) 4 0).bind fun x31 =>
  (ab_ck h26 x31 (1, 0)).bind fun a35 =>
  bnd (f_X1_signOf a35 x3 h26) fun x32 h33 =>
  (ab_ck h33 x30 (0, 0)).bind fun a40 =>
  bnd (f_X0_turn a40 p0 x15 x32 h33) fun x37 h38 =>
  if ¬ x37 = 0 then
    (ab_ck h38 (some this) (4, 0)).bind fun a46 =>
    bnd (f_X4_search a46 x3 x37 h38) fun x43 h44 =>
    f_X4_highOf_104 x43 h44
  else
    f_X4_highOf_104 4611686018427387904 h38
theorem mi_X4_highOf : ab_MI yX4_highOf cX4_highOf 5 (some .double) 1 := ⟨lc_yX4_highOf, lz_RX4, by decide, by decide, by decide +kernel⟩
set_option maxHeartbeats 4000000 in
set_option maxRecDepth 100000 in
theorem c_X4_highOf (l : Launch) (D : va_G) (cA : Nat → ClassId) (sz : Nat) {this : Nat} {p0 : Int32} {h hh : Hp} {rr : UInt64} (hF : f_X4_highOf this p0 h = some (rr, hh)) : ab_C l D cA sz yX4_highOf cX4_highOf 5 (some .double) 4 0 0 [.ref this, .int p0] h (some (.double rr)) hh := by
  refine Met.ofW (cc := cX4_highOf) (maxL := 5) (ret := (some .double)) (by decide) rfl ?_
  intro p e s m args below meth c s₁ B hml hv
  obtain ⟨rfl, hT, hR⟩ := hv
  have X : ab_X p s m _ meth c cX4_highOf 5 RX4 D cA sz := (ab_enter B hml hT hR).1
  have S := (ab_enter B hml hT hR).2
  have hr := B.returns
  obtain ⟨ls, hls, hl⟩ := ab_entry m [.ref this, .int p0] 5 (lv := [(0, .ref this), (1, .int p0)]) (by simp [lg_sl, ab_cat, ab_cI, ab_cJ, ab_cD, ab_cF, ab_cA]) (by simp [lv_args, ab_cat, ab_cI, ab_cJ, ab_cD, ab_cF, ab_cA])
  rw [hls]
  have hl : lv_has ls 5 [(0, va_rf (some this)), (1, .int p0)] := hl
  unfold f_X4_highOf at hF
  show W p l e (ab_rm 4 0 0) s m _ below meth c s.heap [] 0 0 _ _
  refine ab_aload_n X dX4_highOf_0 rfl (lv_at hl 0 rfl) ?_
  refine ab_getR X S hF fi_4_10 lf_X4_48 dX4_highOf_1 (fun x1 hF => ?_)
  refine ab_getR X S hF fi_0_1 lf_X4_120 dX4_highOf_4 (fun x2 hF => ?_)
  refine lv_iload_n X.1 X.2.1 dX4_highOf_7 rfl (lv_at hl 1 rfl) ?_
  refine ab_aldI X S hF dX4_highOf_8 (fun x3 hF => ?_)
  refine lv_istore_n (i := 2) (lv' := [(2, .int x3), (0, va_rf (some this)), (1, .int p0)]) X.1 X.2.1 dX4_highOf_9 rfl hl (by decide) (by simp [ab_cat, ab_cI, ab_cJ, ab_cD, ab_cF]) (fun ls hl => ?_)
  refine ab_aload_n X dX4_highOf_10 rfl (lv_at hl 1 rfl) ?_
  refine ab_getR X S hF fi_4_0 lf_X4_9 dX4_highOf_11 (fun x4 hF => ?_)
  refine ab_aload_n X dX4_highOf_14 rfl (lv_at hl 1 rfl) ?_
  refine ab_getR X S hF fi_4_11 lf_X4_57 dX4_highOf_15 (fun x5 hF => ?_)
  refine ab_getD X S hF fi_6_3 lf_X4_123 dX4_highOf_18 (fun x6 hF => ?_)
  refine ab_aload_n X dX4_highOf_21 rfl (lv_at hl 1 rfl) ?_
  refine ab_getR X S hF fi_4_11 lf_X4_57 dX4_highOf_22 (fun x7 hF => ?_)
  refine ab_getR X S hF fi_6_6 lf_X4_126 dX4_highOf_25 (fun x8 hF => ?_)
  refine lv_iload_n X.1 X.2.1 dX4_highOf_28 rfl (lv_at hl 0 rfl) ?_
  refine lv_iconst (v := 1) X.1 X.2.1 dX4_highOf_29 (by decide) ?_
  refine lv_iadd X.1 X.2.1 dX4_highOf_30 ?_
  obtain ⟨a12, e13, hF⟩ := bind_out hF
  obtain ⟨x9, h10, e11, hF⟩ := bnd_out hF
  refine ab_callVv X S e13 (c_X1_reckonNodes l D cA sz e11) rfl (by decide) mi_X1_reckonNodes lm_X4_129 li_yX1_reckonNodes ls_yX1_reckonNodes (As := [.double x6, va_rf x8, .int (x3 + 1)]) (rest := []) rfl ⟨by decide, by decide⟩ ⟨(by decide), (by decide)⟩ hl.1 rfl (by simp [ab_cat, ab_cI, ab_cJ, ab_cD, ab_cF]) dX4_highOf_31 (fun H1 locs1 S => ?_)
  refine ab_aload_n X dX4_highOf_34 rfl (lv_at hl 1 rfl) ?_
  refine ab_getR X S hF fi_4_0 lf_X4_9 dX4_highOf_35 (fun x14 hF => ?_)
  refine lv_iload_n X.1 X.2.1 dX4_highOf_38 rfl (lv_at hl 0 rfl) ?_
  obtain ⟨a18, e19, hF⟩ := bind_out hF
  obtain ⟨x15, h16, e17, hF⟩ := bnd_out hF
  refine ab_callVi X S e19 (c_X1_signOf l D cA sz e17) rfl (by decide) mi_X1_signOf lm_X4_135 li_yX1_signOf ls_yX1_signOf (As := [.int x3]) (rest := []) rfl ⟨by decide, by decide⟩ ⟨(by decide), (by decide)⟩ hl.1 rfl (by simp [ab_cat, ab_cI, ab_cJ, ab_cD, ab_cF]) dX4_highOf_39 (fun H1 locs1 S => ?_)
  refine lv_istore_n (i := 3) (lv' := [(3, .int x15), (2, .int x3), (0, va_rf (some this)), (1, .int p0)]) X.1 X.2.1 dX4_highOf_42 rfl hl (by decide) (by simp [ab_cat, ab_cI, ab_cJ, ab_cD, ab_cF]) (fun ls hl => ?_)
  refine ab_aload_n X dX4_highOf_43 rfl (lv_at hl 2 rfl) ?_
  refine ab_getR X S hF fi_4_0 lf_X4_9 dX4_highOf_44 (fun x20 hF => ?_)
  refine ab_aload_n X dX4_highOf_47 rfl (lv_at hl 2 rfl) ?_
  refine ab_getR X S hF fi_4_11 lf_X4_57 dX4_highOf_48 (fun x21 hF => ?_)
  refine ab_getD X S hF fi_6_5 lf_X4_87 dX4_highOf_51 (fun x22 hF => ?_)
  refine ab_aload_n X dX4_highOf_54 rfl (lv_at hl 2 rfl) ?_
  refine ab_getR X S hF fi_4_11 lf_X4_57 dX4_highOf_55 (fun x23 hF => ?_)
  refine ab_getR X S hF fi_6_8 lf_X4_84 dX4_highOf_58 (fun x24 hF => ?_)
  refine lv_iload_n X.1 X.2.1 dX4_highOf_61 rfl (lv_at hl 1 rfl) ?_
  refine lv_iconst (v := 1) X.1 X.2.1 dX4_highOf_62 (by decide) ?_
  refine lv_iadd X.1 X.2.1 dX4_highOf_63 ?_
  obtain ⟨a28, e29, hF⟩ := bind_out hF
  obtain ⟨x25, h26, e27, hF⟩ := bnd_out hF
  refine ab_callVv X S e29 (c_X1_reckonNodes l D cA sz e27) rfl (by decide) mi_X1_reckonNodes lm_X4_129 li_yX1_reckonNodes ls_yX1_reckonNodes (As := [.double x22, va_rf x24, .int (x3 + 1)]) (rest := []) rfl ⟨by decide, by decide⟩ ⟨(by decide), (by decide)⟩ hl.1 rfl (by simp [ab_cat, ab_cI, ab_cJ, ab_cD, ab_cF]) dX4_highOf_64 (fun H1 locs1 S => ?_)
  refine ab_aload_n X dX4_highOf_67 rfl (lv_at hl 2 rfl) ?_
  refine ab_getR X S hF fi_4_10 lf_X4_48 dX4_highOf_68 (fun x30 hF => ?_)
  refine lv_iload_n X.1 X.2.1 dX4_highOf_71 rfl (lv_at hl 3 rfl) ?_
  refine lv_iload_n X.1 X.2.1 dX4_highOf_72 rfl (lv_at hl 0 rfl) ?_
  refine ab_aload_n X dX4_highOf_73 rfl (lv_at hl 2 rfl) ?_
  refine ab_getR X S hF fi_4_0 lf_X4_9 dX4_highOf_74 (fun x31 hF => ?_)
  refine lv_iload_n X.1 X.2.1 dX4_highOf_77 rfl (lv_at hl 1 rfl) ?_
  obtain ⟨a35, e36, hF⟩ := bind_out hF
  obtain ⟨x32, h33, e34, hF⟩ := bnd_out hF
  refine ab_callVi X S e36 (c_X1_signOf l D cA sz e34) rfl (by decide) mi_X1_signOf lm_X4_135 li_yX1_signOf ls_yX1_signOf (As := [.int x3]) (rest := [.int x15, .int p0, va_rf x30]) rfl ⟨by decide, by decide⟩ ⟨(by decide), (by decide)⟩ hl.1 rfl (by simp [ab_cat, ab_cI, ab_cJ, ab_cD, ab_cF]) dX4_highOf_78 (fun H1 locs1 S => ?_)
  obtain ⟨a40, e41, hF⟩ := bind_out hF
  obtain ⟨x37, h38, e39, hF⟩ := bnd_out hF
  refine ab_callVi X S e41 (c_X0_turn l D cA sz e39) rfl (by decide) mi_X0_turn lm_X4_139 li_yX0_turn ls_yX0_turn (As := [.int p0, .int x15, .int x32]) (rest := []) rfl ⟨by decide, by decide⟩ ⟨(by decide), (by decide)⟩ hl.1 rfl (by simp [ab_cat, ab_cI, ab_cJ, ab_cD, ab_cF]) dX4_highOf_81 (fun H1 locs1 S => ?_)
  refine lv_istore (lv' := [(4, .int x37), (3, .int x15), (2, .int x3), (0, va_rf (some this)), (1, .int p0)]) X.1 X.2.1 dX4_highOf_84 hl (by decide) (by simp [ab_cat, ab_cI, ab_cJ, ab_cD, ab_cF]) (fun ls hl => ?_)
  refine lv_iload X.1 X.2.1 dX4_highOf_86 (lv_at hl 0 rfl) ?_
  refine lv_if_ne (tgt := 97) X.1 X.2.1 dX4_highOf_88 (by decide) (fun c42 => ?_) (fun c42 => ?_)
  · have hF := ab_pos c42 hF
    refine ab_aload_n X dX4_highOf_97 rfl (lv_at hl 3 rfl) ?_
    refine lv_iload_n X.1 X.2.1 dX4_highOf_98 rfl (lv_at hl 2 rfl) ?_
    refine lv_iload X.1 X.2.1 dX4_highOf_99 (lv_at hl 0 rfl) ?_
    obtain ⟨a46, e47, hF⟩ := bind_out hF
    obtain ⟨x43, h44, e45, hF⟩ := bnd_out hF
    refine ab_callVd X S e47 (c_X4_search l D cA sz e45) rfl (by decide) mi_X4_search lm_X4_145 li_yX4_search ls_yX4_search (As := [.int x3, .int x37]) (rest := []) rfl ⟨by decide, by decide⟩ ⟨(by decide), (by decide)⟩ hl.1 rfl (by simp [ab_cat, ab_cI, ab_cJ, ab_cD, ab_cF]) dX4_highOf_101 (fun H1 locs1 S => ?_)
    exact w_X4_highOf_104 X hr  S (lv_sub hl [] rfl) hF
  · have hF := ab_neg (fun q => q c42) hF
    refine lv_ldc2d (v := 4611686018427387904) X.1 X.2.1 X.2.2.2.1 (X.2.2.2.2.1 _ ld_X4_143) dX4_highOf_91 ?_
    refine lv_goto (tgt := 104) X.1 X.2.1 dX4_highOf_94 (by decide) ?_
    exact w_X4_highOf_104 X hr  S (lv_sub hl [] rfl) hF
def f_X6_make_241  (u0 : Int32) (h : Hp) : Option (Int32 × Hp) :=
  if u0 = 0 ∨ u0 = 1 then some (u0, h) else none
set_option maxHeartbeats 4000000 in
set_option maxRecDepth 100000 in
theorem w_X6_make_241 {p : Program} {l : Launch} {e : Env} {s : State} {m : MethodId} {args : Array Value} {below : List Frame} {meth : Method} {c : Code} {D : va_G} {cA : Nat → ClassId} {sz : Nat} {rr : Int32} {hh : Hp}  (X : ab_X p s m args meth c cX6_make 9 RX6 D cA sz) (hr : meth.sig.returnType = (some .boolean))  {H : Heap} {locs : List Loc} {ls : Array Slot} {u0 : Int32} {h : Hp} (S : ab_H D cA sz h s H locs) (hl : lv_has ls 9 []) (hF : f_X6_make_241 u0 h = some (rr, hh)) : W p l e (ab_rm 5 0 0) s m args below meth c H locs 0 0 (MQ below (ab_Q D cA sz (some (.int rr)) hh) args s 0 0 (fun q => sz ≤ q)) (F0 m 241 ls [.int u0]) := by
  unfold f_X6_make_241 at hF
  exact ab_zret X S hr hF dX6_make_241
def f_X6_make_240   (h : Hp) : Option (Int32 × Hp) :=
  f_X6_make_241 0 h
set_option maxHeartbeats 4000000 in
set_option maxRecDepth 100000 in
theorem w_X6_make_240 {p : Program} {l : Launch} {e : Env} {s : State} {m : MethodId} {args : Array Value} {below : List Frame} {meth : Method} {c : Code} {D : va_G} {cA : Nat → ClassId} {sz : Nat} {rr : Int32} {hh : Hp}  (X : ab_X p s m args meth c cX6_make 9 RX6 D cA sz) (hr : meth.sig.returnType = (some .boolean))  {H : Heap} {locs : List Loc} {ls : Array Slot}  {h : Hp} (S : ab_H D cA sz h s H locs) (hl : lv_has ls 9 []) (hF : f_X6_make_240  h = some (rr, hh)) : W p l e (ab_rm 5 0 0) s m args below meth c H locs 0 0 (MQ below (ab_Q D cA sz (some (.int rr)) hh) args s 0 0 (fun q => sz ≤ q)) (F0 m 240 ls []) := by
  unfold f_X6_make_240 at hF
  refine lv_iconst (v := 0) X.1 X.2.1 dX6_make_240 (by decide) ?_
  exact w_X6_make_241 X hr  S (lv_sub hl [] rfl) hF
def f_X6_make_183  (v0 : Option Nat) (v8 : Int32) (h : Hp) : Option (Int32 × Hp) :=
  if v8 = 0 then
    f_X6_make_240 h
  else
    (getR h v0 6 8).bind fun x2 =>
    (getR h v0 6 1).bind fun x3 =>
    (getI h x3 1 1).bind fun x4 =>
    (ab_ck h x2 (3, 0)).bind fun a8 =>
    bnd (f_X3_isFinite a8 x4 h) fun x5 h6 =>
    if x5 = 0 then
      f_X6_make_240 h6
    else
      (getD h6 v0 6 5).bind fun x11 =>
      (getR h6 v0 6 0).bind fun x12 =>
      (getD h6 x12 2 0).bind fun x13 =>
      if 0 < (Op.cmpValue (FP.dcmp x11 x13) CmpOp.g) then
        f_X6_make_240 h6
      else
        (getD h6 v0 6 5).bind fun x15 =>
        (getR h6 v0 6 0).bind fun x16 =>
        (getD h6 x16 2 0).bind fun x17 =>
        if (Op.cmpValue (FP.dcmp x15 (FP.dneg x17)) CmpOp.l) < 0 then
          f_X6_make_240 h6
        else
          f_X6_make_241 1 h6
set_option maxHeartbeats 4000000 in
set_option maxRecDepth 100000 in
theorem w_X6_make_183 {p : Program} {l : Launch} {e : Env} {s : State} {m : MethodId} {args : Array Value} {below : List Frame} {meth : Method} {c : Code} {D : va_G} {cA : Nat → ClassId} {sz : Nat} {rr : Int32} {hh : Hp}  (X : ab_X p s m args meth c cX6_make 9 RX6 D cA sz) (hr : meth.sig.returnType = (some .boolean))  {H : Heap} {locs : List Loc} {ls : Array Slot} {v0 : Option Nat} {v8 : Int32} {h : Hp} (S : ab_H D cA sz h s H locs) (hl : lv_has ls 9 [(0, va_rf v0), (8, .int v8)]) (hF : f_X6_make_183 v0 v8 h = some (rr, hh)) : W p l e (ab_rm 5 0 0) s m args below meth c H locs 0 0 (MQ below (ab_Q D cA sz (some (.int rr)) hh) args s 0 0 (fun q => sz ≤ q)) (F0 m 183 ls []) := by
  unfold f_X6_make_183 at hF
  refine lv_iload X.1 X.2.1 dX6_make_183 (lv_at hl 1 rfl) ?_
  refine lv_if_eq (tgt := 240) X.1 X.2.1 dX6_make_185 (by decide) (fun c1 => ?_) (fun c1 => ?_)
  · have hF := ab_pos c1 hF
    exact w_X6_make_240 X hr  S (lv_sub hl [] rfl) hF
  · have hF := ab_neg c1 hF
    refine ab_aload_n X dX6_make_188 rfl (lv_at hl 0 rfl) ?_
    refine ab_getR X S hF fi_6_8 lf_X6_27 dX6_make_189 (fun x2 hF => ?_)
    refine ab_aload_n X dX6_make_192 rfl (lv_at hl 0 rfl) ?_
    refine ab_getR X S hF fi_6_1 lf_X6_40 dX6_make_193 (fun x3 hF => ?_)
    refine ab_getI X S hF fi_1_1 lf_X6_95 dX6_make_196 (fun x4 hF => ?_)
    obtain ⟨a8, e9, hF⟩ := bind_out hF
    obtain ⟨x5, h6, e7, hF⟩ := bnd_out hF
    refine ab_callVi X S e9 (c_X3_isFinite l D cA sz e7) rfl (by decide) mi_X3_isFinite lm_X6_100 li_yX3_isFinite ls_yX3_isFinite (As := [.int x4]) (rest := []) rfl ⟨by decide, by decide⟩ ⟨(by decide), (by decide)⟩ hl.1 rfl (by simp [ab_cat, ab_cI, ab_cJ, ab_cD, ab_cF]) dX6_make_199 (fun H1 locs1 S => ?_)
    refine lv_if_eq (tgt := 240) X.1 X.2.1 dX6_make_202 (by decide) (fun c10 => ?_) (fun c10 => ?_)
    · have hF := ab_pos c10 hF
      exact w_X6_make_240 X hr  S (lv_sub hl [] rfl) hF
    · have hF := ab_neg c10 hF
      refine ab_aload_n X dX6_make_205 rfl (lv_at hl 0 rfl) ?_
      refine ab_getD X S hF fi_6_5 lf_X6_55 dX6_make_206 (fun x11 hF => ?_)
      refine ab_aload_n X dX6_make_209 rfl (lv_at hl 0 rfl) ?_
      refine ab_getR X S hF fi_6_0 lf_X6_9 dX6_make_210 (fun x12 hF => ?_)
      refine ab_getD X S hF fi_2_0 lf_X6_104 dX6_make_213 (fun x13 hF => ?_)
      refine lv_dcmp X.1 X.2.1 dX6_make_216 ?_
      refine lv_if_gt (tgt := 240) X.1 X.2.1 dX6_make_217 (by decide) (fun c14 => ?_) (fun c14 => ?_)
      · have hF := ab_pos c14 hF
        exact w_X6_make_240 X hr  S (lv_sub hl [] rfl) hF
      · have hF := ab_neg c14 hF
        refine ab_aload_n X dX6_make_220 rfl (lv_at hl 0 rfl) ?_
        refine ab_getD X S hF fi_6_5 lf_X6_55 dX6_make_221 (fun x15 hF => ?_)
        refine ab_aload_n X dX6_make_224 rfl (lv_at hl 0 rfl) ?_
        refine ab_getR X S hF fi_6_0 lf_X6_9 dX6_make_225 (fun x16 hF => ?_)
        refine ab_getD X S hF fi_2_0 lf_X6_104 dX6_make_228 (fun x17 hF => ?_)
        refine lv_dneg X.1 X.2.1 dX6_make_231 ?_
        refine lv_dcmp X.1 X.2.1 dX6_make_232 ?_
        refine lv_if_lt (tgt := 240) X.1 X.2.1 dX6_make_233 (by decide) (fun c18 => ?_) (fun c18 => ?_)
        · have hF := ab_pos c18 hF
          exact w_X6_make_240 X hr  S (lv_sub hl [] rfl) hF
        · have hF := ab_neg c18 hF
          refine lv_iconst (v := 1) X.1 X.2.1 dX6_make_236 (by decide) ?_
          refine lv_goto (tgt := 241) X.1 X.2.1 dX6_make_237 (by decide) ?_
          exact w_X6_make_241 X hr  S (lv_sub hl [] rfl) hF
def f_X6_make (this : Nat) (p0 : Option Nat) (p1 : Int32) (p2 : UInt64) (p3 : Option Nat) (p4 : UInt64) (h : Hp) : Option (Int32 × Hp) :=
  (putR h (some this) 6 1 p0).bind fun h1 =>
  (putI h1 (some this) 6 2 p1).bind fun h2 =>
  (putD h2 (some this) 6 3 p2).bind fun h3 =>
  (putD h3 (some this) 6 4 p4).bind fun h4 =>
  (getD h4 (some this) 6 3).bind fun x5 =>
  (getD h4 (some this) 6 4).bind fun x6 =>
  (fop (FP.dadd x5 x6)).bind fun x7 =>
  (putD h4 (some this) 6 5 x7).bind fun h8 =>
  (getR h8 (some this) 6 6).bind fun x9 =>
  (ab_ck h8 x9 (3, 0)).bind fun a13 =>
  bnd (f_X3_copy a13 p3 h8) fun _ h11 =>
  (putD h11 (some this) 6 12 FP.dconst0).bind fun h15 =>
  (putI h15 (some this) 6 13 0).bind fun h16 =>
  (getD h16 (some this) 6 3).bind fun x17 =>
  (getR h16 (some this) 6 6).bind fun x18 =>
  (ab_ck h16 (some this) (6, 0)).bind fun a22 =>
  bnd (f_X6_slope a22 0 x17 x18 h16) fun x19 h20 =>
  if ¬ x19 = 0 then
    (getI h20 (some this) 6 2).bind fun x25 =>
    if x25.toInt < 0 ∨ 5 < x25.toInt then
      (ab_ck h20 (some this) (6, 0)).bind fun a30 =>
      bnd (f_X6_leap a30 h20) fun x27 h28 =>
      f_X6_make_183 (some this) x27 h28
    else if x25 = 0 then
      (getR h20 (some this) 6 8).bind fun x33 =>
      (getD h20 (some this) 6 4).bind fun x34 =>
      (ab_ck h20 (some this) (6, 0)).bind fun a38 =>
      bnd (f_X6_move a38 x33 x34 0 h20) fun _ h36 =>
      f_X6_make_183 (some this) 1 h36
    else if x25 = 1 then
      (ab_ck h20 (some this) (6, 0)).bind fun a44 =>
      bnd (f_X6_middle a44 h20) fun x41 h42 =>
      f_X6_make_183 (some this) x41 h42
    else if x25 = 2 then
      (ab_ck h20 (some this) (6, 0)).bind fun a50 =>
      bnd (f_X6_third a50 h20) fun x47 h48 =>
      f_X6_make_183 (some this) x47 h48
    else if x25 = 3 then
      (ab_ck h20 (some this) (6, 0)).bind fun a56 =>
      bnd (f_X6_fourth a56 h20) fun x53 h54 =>
      f_X6_make_183 (some this) x53 h54
    else if x25 = 4 then
      (ab_ck h20 (some this) (6, 0)).bind fun a62 =>
      bnd (f_X6_pair a62 h20) fun x59 h60 =>
      f_X6_make_183 (some this) x59 h60
    else if x25 = 5 then
      (ab_ck h20 (some this) (6, 0)).bind fun a68 =>
      bnd (f_X6_backward a68 h20) fun x65 h66 =>
      f_X6_make_183 (some this) x65 h66
    else none
  else
    if 0 = 0 ∨ 0 = 1 then some (0, h20) else none
theorem mi_X6_make : ab_MI yX6_make cX6_make 9 (some .boolean) 5 := ⟨lc_yX6_make, lz_RX6, by decide, by decide, by decide +kernel⟩
set_option maxHeartbeats 4000000 in
set_option maxRecDepth 100000 in
theorem c_X6_make (l : Launch) (D : va_G) (cA : Nat → ClassId) (sz : Nat) {this : Nat} {p0 : Option Nat} {p1 : Int32} {p2 : UInt64} {p3 : Option Nat} {p4 : UInt64} {h hh : Hp} {rr : Int32} (hF : f_X6_make this p0 p1 p2 p3 p4 h = some (rr, hh)) : ab_C l D cA sz yX6_make cX6_make 9 (some .boolean) 5 0 0 [.ref this, va_rf p0, .int p1, .double p2, va_rf p3, .double p4] h (some (.int rr)) hh := by
  refine Met.ofW (cc := cX6_make) (maxL := 9) (ret := (some .boolean)) (by decide) rfl ?_
  intro p e s m args below meth c s₁ B hml hv
  obtain ⟨rfl, hT, hR⟩ := hv
  have X : ab_X p s m _ meth c cX6_make 9 RX6 D cA sz := (ab_enter B hml hT hR).1
  have S := (ab_enter B hml hT hR).2
  have hr := B.returns
  obtain ⟨ls, hls, hl⟩ := ab_entry m [.ref this, va_rf p0, .int p1, .double p2, va_rf p3, .double p4] 9 (lv := [(0, .ref this), (1, va_rf p0), (2, .int p1), (3, .double p2), (5, va_rf p3), (6, .double p4)]) (by simp [lg_sl, ab_cat, ab_cI, ab_cJ, ab_cD, ab_cF, ab_cA]) (by simp [lv_args, ab_cat, ab_cI, ab_cJ, ab_cD, ab_cF, ab_cA])
  rw [hls]
  have hl : lv_has ls 9 [(0, va_rf (some this)), (1, va_rf p0), (2, .int p1), (3, .double p2), (5, va_rf p3), (6, .double p4)] := hl
  unfold f_X6_make at hF
  show W p l e (ab_rm 5 0 0) s m _ below meth c s.heap [] 0 0 _ _
  refine ab_aload_n X dX6_make_0 rfl (lv_at hl 0 rfl) ?_
  refine ab_aload_n X dX6_make_1 rfl (lv_at hl 1 rfl) ?_
  refine ab_putR X S hF fi_6_1 ci_6 (Or.inl rfl) (fun q => by cases q <;> rfl) (fun q => by cases q <;> rfl) lf_X6_40 dX6_make_2 (fun h1 H1 locs1 hF S => ?_)
  refine ab_aload_n X dX6_make_5 rfl (lv_at hl 0 rfl) ?_
  refine lv_iload_n X.1 X.2.1 dX6_make_6 rfl (lv_at hl 2 rfl) ?_
  refine ab_putI X S hF fi_6_2 ci_6 (Or.inl rfl) rfl lf_X6_44 dX6_make_7 (fun h2 H1 locs1 hF S => ?_)
  refine ab_aload_n X dX6_make_10 rfl (lv_at hl 0 rfl) ?_
  refine lv_dload_n X.1 X.2.1 dX6_make_11 rfl (lv_at hl 3 rfl) ?_
  refine ab_putD X S hF fi_6_3 ci_6 (Or.inl rfl) rfl lf_X6_48 dX6_make_12 (fun h3 H1 locs1 hF S => ?_)
  refine ab_aload_n X dX6_make_15 rfl (lv_at hl 0 rfl) ?_
  refine lv_dload X.1 X.2.1 dX6_make_16 (lv_at hl 5 rfl) ?_
  refine ab_putD X S hF fi_6_4 ci_6 (Or.inl rfl) rfl lf_X6_52 dX6_make_18 (fun h4 H1 locs1 hF S => ?_)
  refine ab_aload_n X dX6_make_21 rfl (lv_at hl 0 rfl) ?_
  refine ab_aload_n X dX6_make_22 rfl (lv_at hl 0 rfl) ?_
  refine ab_getD X S hF fi_6_3 lf_X6_48 dX6_make_23 (fun x5 hF => ?_)
  refine ab_aload_n X dX6_make_26 rfl (lv_at hl 0 rfl) ?_
  refine ab_getD X S hF fi_6_4 lf_X6_52 dX6_make_27 (fun x6 hF => ?_)
  obtain ⟨x7, ev, ne, hF⟩ := ab_fopx hF
  refine lv_dadd X.1 X.2.1 dX6_make_30 ne ?_
  rw [ev]
  refine ab_putD X S hF fi_6_5 ci_6 (Or.inl rfl) rfl lf_X6_55 dX6_make_31 (fun h8 H1 locs1 hF S => ?_)
  refine ab_aload_n X dX6_make_34 rfl (lv_at hl 0 rfl) ?_
  refine ab_getR X S hF fi_6_6 lf_X6_20 dX6_make_35 (fun x9 hF => ?_)
  refine ab_aload X dX6_make_38 (lv_at hl 4 rfl) ?_
  obtain ⟨a13, e14, hF⟩ := bind_out hF
  obtain ⟨x10, h11, e12, hF⟩ := bnd_out hF
  refine ab_callVv X S e14 (c_X3_copy l D cA sz e12) rfl (by decide) mi_X3_copy lm_X6_58 li_yX3_copy ls_yX3_copy (As := [va_rf p3]) (rest := []) rfl ⟨by decide, by decide⟩ ⟨(by decide), (by decide)⟩ hl.1 rfl (by simp [ab_cat, ab_cI, ab_cJ, ab_cD, ab_cF]) dX6_make_40 (fun H1 locs1 S => ?_)
  refine ab_aload_n X dX6_make_43 rfl (lv_at hl 0 rfl) ?_
  refine lv_dconst0 X.1 X.2.1 dX6_make_44 ?_
  refine ab_putD X S hF fi_6_12 ci_6 (Or.inl rfl) rfl lf_X6_62 dX6_make_45 (fun h15 H1 locs1 hF S => ?_)
  refine ab_aload_n X dX6_make_48 rfl (lv_at hl 0 rfl) ?_
  refine lv_iconst (v := 0) X.1 X.2.1 dX6_make_49 (by decide) ?_
  refine ab_putI X S hF fi_6_13 ci_6 (Or.inl rfl) rfl lf_X6_65 dX6_make_50 (fun h16 H1 locs1 hF S => ?_)
  refine ab_aload_n X dX6_make_53 rfl (lv_at hl 0 rfl) ?_
  refine lv_iconst (v := 0) X.1 X.2.1 dX6_make_54 (by decide) ?_
  refine ab_aload_n X dX6_make_55 rfl (lv_at hl 0 rfl) ?_
  refine ab_getD X S hF fi_6_3 lf_X6_48 dX6_make_56 (fun x17 hF => ?_)
  refine ab_aload_n X dX6_make_59 rfl (lv_at hl 0 rfl) ?_
  refine ab_getR X S hF fi_6_6 lf_X6_20 dX6_make_60 (fun x18 hF => ?_)
  obtain ⟨a22, e23, hF⟩ := bind_out hF
  obtain ⟨x19, h20, e21, hF⟩ := bnd_out hF
  refine ab_callVi X S e23 (c_X6_slope l D cA sz e21) rfl (by decide) mi_X6_slope lm_X6_68 li_yX6_slope ls_yX6_slope (As := [.int 0, .double x17, va_rf x18]) (rest := []) rfl ⟨by decide, by decide⟩ ⟨(by decide), (by decide)⟩ hl.1 rfl (by simp [ab_cat, ab_cI, ab_cJ, ab_cD, ab_cF]) dX6_make_63 (fun H1 locs1 S => ?_)
  refine lv_if_ne (tgt := 71) X.1 X.2.1 dX6_make_66 (by decide) (fun c24 => ?_) (fun c24 => ?_)
  · have hF := ab_pos c24 hF
    refine lv_iconst (v := 1) X.1 X.2.1 dX6_make_71 (by decide) ?_
    refine lv_istore (lv' := [(8, .int 1), (0, va_rf (some this)), (1, va_rf p0), (2, .int p1), (3, .double p2), (5, va_rf p3), (6, .double p4)]) X.1 X.2.1 dX6_make_72 hl (by decide) (by simp [ab_cat, ab_cI, ab_cJ, ab_cD, ab_cF]) (fun ls hl => ?_)
    refine ab_aload_n X dX6_make_74 rfl (lv_at hl 1 rfl) ?_
    refine ab_getI X S hF fi_6_2 lf_X6_44 dX6_make_75 (fun x25 hF => ?_)
    by_cases c26 : x25.toInt < 0 ∨ 5 < x25.toInt
    · have hF := ab_pos c26 hF
      refine lv_tableOut (tgt := 177) X.1 X.2.1 dX6_make_78 c26 (by decide) ?_
      refine ab_aload_n X dX6_make_177 rfl (lv_at hl 1 rfl) ?_
      obtain ⟨a30, e31, hF⟩ := bind_out hF
      obtain ⟨x27, h28, e29, hF⟩ := bnd_out hF
      refine ab_callVi X S e31 (c_X6_leap l D cA sz e29) rfl (by decide) mi_X6_leap lm_X6_92 li_yX6_leap ls_yX6_leap (As := []) (rest := []) rfl ⟨by decide, by decide⟩ ⟨(by decide), (by decide)⟩ hl.1 rfl (by simp [ab_cat, ab_cI, ab_cJ, ab_cD, ab_cF]) dX6_make_178 (fun H1 locs1 S => ?_)
      refine lv_istore (lv' := [(8, .int x27), (0, va_rf (some this)), (1, va_rf p0), (2, .int p1), (3, .double p2), (5, va_rf p3), (6, .double p4)]) X.1 X.2.1 dX6_make_181 hl (by decide) (by simp [ab_cat, ab_cI, ab_cJ, ab_cD, ab_cF]) (fun ls hl => ?_)
      exact w_X6_make_183 X hr  S (lv_sub hl [1, 0] rfl) hF
    have hF := ab_neg c26 hF
    by_cases c32 : x25 = 0
    · have hF := ab_pos c32 hF
      refine ab_tab (tgt := 116) X dX6_make_78 c32 (by decide) (by decide) rfl (by decide) ?_
      refine ab_aload_n X dX6_make_116 rfl (lv_at hl 1 rfl) ?_
      refine ab_aload_n X dX6_make_117 rfl (lv_at hl 1 rfl) ?_
      refine ab_getR X S hF fi_6_8 lf_X6_27 dX6_make_118 (fun x33 hF => ?_)
      refine ab_aload_n X dX6_make_121 rfl (lv_at hl 1 rfl) ?_
      refine ab_getD X S hF fi_6_4 lf_X6_52 dX6_make_122 (fun x34 hF => ?_)
      refine lv_iconst (v := 0) X.1 X.2.1 dX6_make_125 (by decide) ?_
      obtain ⟨a38, e39, hF⟩ := bind_out hF
      obtain ⟨x35, h36, e37, hF⟩ := bnd_out hF
      refine ab_callVv X S e39 (c_X6_move l D cA sz e37) rfl (by decide) mi_X6_move lm_X6_72 li_yX6_move ls_yX6_move (As := [va_rf x33, .double x34, .int 0]) (rest := []) rfl ⟨by decide, by decide⟩ ⟨(by decide), (by decide)⟩ hl.1 rfl (by simp [ab_cat, ab_cI, ab_cJ, ab_cD, ab_cF]) dX6_make_126 (fun H1 locs1 S => ?_)
      refine lv_goto (tgt := 183) X.1 X.2.1 dX6_make_129 (by decide) ?_
      exact w_X6_make_183 X hr  S (lv_sub hl [1, 0] rfl) hF
    have hF := ab_neg c32 hF
    by_cases c40 : x25 = 1
    · have hF := ab_pos c40 hF
      refine ab_tab (tgt := 132) X dX6_make_78 c40 (by decide) (by decide) rfl (by decide) ?_
      refine ab_aload_n X dX6_make_132 rfl (lv_at hl 1 rfl) ?_
      obtain ⟨a44, e45, hF⟩ := bind_out hF
      obtain ⟨x41, h42, e43, hF⟩ := bnd_out hF
      refine ab_callVi X S e45 (c_X6_middle l D cA sz e43) rfl (by decide) mi_X6_middle lm_X6_76 li_yX6_middle ls_yX6_middle (As := []) (rest := []) rfl ⟨by decide, by decide⟩ ⟨(by decide), (by decide)⟩ hl.1 rfl (by simp [ab_cat, ab_cI, ab_cJ, ab_cD, ab_cF]) dX6_make_133 (fun H1 locs1 S => ?_)
      refine lv_istore (lv' := [(8, .int x41), (0, va_rf (some this)), (1, va_rf p0), (2, .int p1), (3, .double p2), (5, va_rf p3), (6, .double p4)]) X.1 X.2.1 dX6_make_136 hl (by decide) (by simp [ab_cat, ab_cI, ab_cJ, ab_cD, ab_cF]) (fun ls hl => ?_)
      refine lv_goto (tgt := 183) X.1 X.2.1 dX6_make_138 (by decide) ?_
      exact w_X6_make_183 X hr  S (lv_sub hl [1, 0] rfl) hF
    have hF := ab_neg c40 hF
    by_cases c46 : x25 = 2
    · have hF := ab_pos c46 hF
      refine ab_tab (tgt := 141) X dX6_make_78 c46 (by decide) (by decide) rfl (by decide) ?_
      refine ab_aload_n X dX6_make_141 rfl (lv_at hl 1 rfl) ?_
      obtain ⟨a50, e51, hF⟩ := bind_out hF
      obtain ⟨x47, h48, e49, hF⟩ := bnd_out hF
      refine ab_callVi X S e51 (c_X6_third l D cA sz e49) rfl (by decide) mi_X6_third lm_X6_80 li_yX6_third ls_yX6_third (As := []) (rest := []) rfl ⟨by decide, by decide⟩ ⟨(by decide), (by decide)⟩ hl.1 rfl (by simp [ab_cat, ab_cI, ab_cJ, ab_cD, ab_cF]) dX6_make_142 (fun H1 locs1 S => ?_)
      refine lv_istore (lv' := [(8, .int x47), (0, va_rf (some this)), (1, va_rf p0), (2, .int p1), (3, .double p2), (5, va_rf p3), (6, .double p4)]) X.1 X.2.1 dX6_make_145 hl (by decide) (by simp [ab_cat, ab_cI, ab_cJ, ab_cD, ab_cF]) (fun ls hl => ?_)
      refine lv_goto (tgt := 183) X.1 X.2.1 dX6_make_147 (by decide) ?_
      exact w_X6_make_183 X hr  S (lv_sub hl [1, 0] rfl) hF
    have hF := ab_neg c46 hF
    by_cases c52 : x25 = 3
    · have hF := ab_pos c52 hF
      refine ab_tab (tgt := 150) X dX6_make_78 c52 (by decide) (by decide) rfl (by decide) ?_
      refine ab_aload_n X dX6_make_150 rfl (lv_at hl 1 rfl) ?_
      obtain ⟨a56, e57, hF⟩ := bind_out hF
      obtain ⟨x53, h54, e55, hF⟩ := bnd_out hF
      refine ab_callVi X S e57 (c_X6_fourth l D cA sz e55) rfl (by decide) mi_X6_fourth lm_X6_83 li_yX6_fourth ls_yX6_fourth (As := []) (rest := []) rfl ⟨by decide, by decide⟩ ⟨(by decide), (by decide)⟩ hl.1 rfl (by simp [ab_cat, ab_cI, ab_cJ, ab_cD, ab_cF]) dX6_make_151 (fun H1 locs1 S => ?_)
      refine lv_istore (lv' := [(8, .int x53), (0, va_rf (some this)), (1, va_rf p0), (2, .int p1), (3, .double p2), (5, va_rf p3), (6, .double p4)]) X.1 X.2.1 dX6_make_154 hl (by decide) (by simp [ab_cat, ab_cI, ab_cJ, ab_cD, ab_cF]) (fun ls hl => ?_)
      refine lv_goto (tgt := 183) X.1 X.2.1 dX6_make_156 (by decide) ?_
      exact w_X6_make_183 X hr  S (lv_sub hl [1, 0] rfl) hF
    have hF := ab_neg c52 hF
    by_cases c58 : x25 = 4
    · have hF := ab_pos c58 hF
      refine ab_tab (tgt := 159) X dX6_make_78 c58 (by decide) (by decide) rfl (by decide) ?_
      refine ab_aload_n X dX6_make_159 rfl (lv_at hl 1 rfl) ?_
      obtain ⟨a62, e63, hF⟩ := bind_out hF
      obtain ⟨x59, h60, e61, hF⟩ := bnd_out hF
      refine ab_callVi X S e63 (c_X6_pair l D cA sz e61) rfl (by decide) mi_X6_pair lm_X6_86 li_yX6_pair ls_yX6_pair (As := []) (rest := []) rfl ⟨by decide, by decide⟩ ⟨(by decide), (by decide)⟩ hl.1 rfl (by simp [ab_cat, ab_cI, ab_cJ, ab_cD, ab_cF]) dX6_make_160 (fun H1 locs1 S => ?_)
      refine lv_istore (lv' := [(8, .int x59), (0, va_rf (some this)), (1, va_rf p0), (2, .int p1), (3, .double p2), (5, va_rf p3), (6, .double p4)]) X.1 X.2.1 dX6_make_163 hl (by decide) (by simp [ab_cat, ab_cI, ab_cJ, ab_cD, ab_cF]) (fun ls hl => ?_)
      refine lv_goto (tgt := 183) X.1 X.2.1 dX6_make_165 (by decide) ?_
      exact w_X6_make_183 X hr  S (lv_sub hl [1, 0] rfl) hF
    have hF := ab_neg c58 hF
    by_cases c64 : x25 = 5
    · have hF := ab_pos c64 hF
      refine ab_tab (tgt := 168) X dX6_make_78 c64 (by decide) (by decide) rfl (by decide) ?_
      refine ab_aload_n X dX6_make_168 rfl (lv_at hl 1 rfl) ?_
      obtain ⟨a68, e69, hF⟩ := bind_out hF
      obtain ⟨x65, h66, e67, hF⟩ := bnd_out hF
      refine ab_callVi X S e69 (c_X6_backward l D cA sz e67) rfl (by decide) mi_X6_backward lm_X6_89 li_yX6_backward ls_yX6_backward (As := []) (rest := []) rfl ⟨by decide, by decide⟩ ⟨(by decide), (by decide)⟩ hl.1 rfl (by simp [ab_cat, ab_cI, ab_cJ, ab_cD, ab_cF]) dX6_make_169 (fun H1 locs1 S => ?_)
      refine lv_istore (lv' := [(8, .int x65), (0, va_rf (some this)), (1, va_rf p0), (2, .int p1), (3, .double p2), (5, va_rf p3), (6, .double p4)]) X.1 X.2.1 dX6_make_172 hl (by decide) (by simp [ab_cat, ab_cI, ab_cJ, ab_cD, ab_cF]) (fun ls hl => ?_)
      refine lv_goto (tgt := 183) X.1 X.2.1 dX6_make_174 (by decide) ?_
      exact w_X6_make_183 X hr  S (lv_sub hl [1, 0] rfl) hF
    have hF := ab_neg c64 hF
    cases hF
  · have hF := ab_neg (fun q => q c24) hF
    refine lv_iconst (v := 0) X.1 X.2.1 dX6_make_69 (by decide) ?_
    exact ab_zret X S hr hF dX6_make_70
def f_X8_halves_28   (h : Hp) : Option (Int64 × Hp) :=
  some ((9221120237041090560), h)
set_option maxHeartbeats 4000000 in
set_option maxRecDepth 100000 in
theorem w_X8_halves_28 {p : Program} {l : Launch} {e : Env} {s : State} {m : MethodId} {args : Array Value} {below : List Frame} {meth : Method} {c : Code} {D : va_G} {cA : Nat → ClassId} {sz : Nat} {rr : Int64} {hh : Hp}  (X : ab_X p s m args meth c cX8_halves 9 RX8 D cA sz) (hr : meth.sig.returnType = (some .long))  {H : Heap} {locs : List Loc} {ls : Array Slot}  {h : Hp} (S : ab_H D cA sz h s H locs) (hl : lv_has ls 9 []) (hF : f_X8_halves_28  h = some (rr, hh)) : W p l e (ab_rm 6 0 0) s m args below meth c H locs 0 0 (MQ below (ab_Q D cA sz (some (.long rr)) hh) args s 0 0 (fun q => sz ≤ q)) (F0 m 28 ls []) := by
  unfold f_X8_halves_28 at hF
  refine lv_ldc2 (v := (9221120237041090560)) X.1 X.2.1 X.2.2.2.1 (X.2.2.2.2.1 _ ll_X8_190) dX8_halves_28 ?_
  exact ab_lret X S hr hF dX8_halves_31
def f_X8_halves (this : Nat) (p0 : Int32) (p1 : Int32) (h : Hp) : Option (Int64 × Hp) :=
  (ab_ck h (some this) (8, 0)).bind fun a4 =>
  bnd (f_X8_runAt a4 p0 h) fun x1 h2 =>
  if x1 = none then
    f_X8_halves_28 h2
  else
    (getR h2 x1 4 0).bind fun x7 =>
    (ab_ck h2 x7 (1, 0)).bind fun a11 =>
    bnd (f_X1_hasVariable a11 p1 h2) fun x8 h9 =>
    if x8 = 0 then
      f_X8_halves_28 h9
    else
      (getI h9 x1 4 7).bind fun x14 =>
      if x14 = 0 then
        (getR h9 x1 4 0).bind fun x16 =>
        (getD h9 x1 4 4).bind fun x17 =>
        (fop (FP.ddiv x17 4611686018427387904)).bind fun x18 =>
        (getR h9 (some this) 8 9).bind fun x19 =>
        (getI h9 x1 4 3).bind fun x20 =>
        (getD h9 x1 4 1).bind fun x21 =>
        (getR h9 x1 4 2).bind fun x22 =>
        (getD h9 x1 4 4).bind fun x23 =>
        (ab_ck h9 x19 (6, 0)).bind fun a27 =>
        bnd (f_X6_make a27 x16 x20 x21 x22 x23 h9) fun x24 h25 =>
        if ¬ x24 = 0 then
          (getR h25 (some this) 8 9).bind fun x30 =>
          (getR h25 x30 6 8).bind fun x31 =>
          (getR h25 x31 3 0).bind fun x32 =>
          (aldD h25 x32 p1).bind fun x33 =>
          (getR h25 (some this) 8 10).bind fun x34 =>
          (getI h25 x1 4 3).bind fun x35 =>
          (getD h25 x1 4 1).bind fun x36 =>
          (getR h25 x1 4 2).bind fun x37 =>
          (ab_ck h25 x34 (6, 0)).bind fun a41 =>
          bnd (f_X6_make a41 x16 x35 x36 x37 x18 h25) fun x38 h39 =>
          if ¬ x38 = 0 then
            (getR h39 (some this) 8 9).bind fun x44 =>
            (getI h39 x1 4 3).bind fun x45 =>
            (getR h39 (some this) 8 10).bind fun x46 =>
            (getD h39 x46 6 5).bind fun x47 =>
            (getR h39 (some this) 8 10).bind fun x48 =>
            (getR h39 x48 6 8).bind fun x49 =>
            (ab_ck h39 x44 (6, 0)).bind fun a53 =>
            bnd (f_X6_make a53 x16 x45 x47 x49 x18 h39) fun x50 h51 =>
            if ¬ x50 = 0 then
              (getR h51 (some this) 8 1).bind fun x56 =>
              (getR h51 (some this) 8 9).bind fun x57 =>
              (getR h51 x57 6 8).bind fun x58 =>
              (getR h51 x58 3 0).bind fun x59 =>
              (aldD h51 x59 p1).bind fun x60 =>
              (fop (FP.dsub x60 x33)).bind fun x61 =>
              (ab_ck h51 x56 (7, 0)).bind fun a65 =>
              bnd (f_X7_bits a65 x61 h51) fun x62 h63 =>
              some (x62, h63)
            else
              some ((9221120237041090560), h51)
          else
            some ((9221120237041090560), h39)
        else
          some ((9221120237041090560), h25)
      else
        f_X8_halves_28 h9
theorem mi_X8_halves : ab_MI yX8_halves cX8_halves 9 (some .long) 2 := ⟨lc_yX8_halves, lz_RX8, by decide, by decide, by decide +kernel⟩
set_option maxHeartbeats 4000000 in
set_option maxRecDepth 100000 in
theorem c_X8_halves (l : Launch) (D : va_G) (cA : Nat → ClassId) (sz : Nat) {this : Nat} {p0 : Int32} {p1 : Int32} {h hh : Hp} {rr : Int64} (hF : f_X8_halves this p0 p1 h = some (rr, hh)) : ab_C l D cA sz yX8_halves cX8_halves 9 (some .long) 6 0 0 [.ref this, .int p0, .int p1] h (some (.long rr)) hh := by
  refine Met.ofW (cc := cX8_halves) (maxL := 9) (ret := (some .long)) (by decide) rfl ?_
  intro p e s m args below meth c s₁ B hml hv
  obtain ⟨rfl, hT, hR⟩ := hv
  have X : ab_X p s m _ meth c cX8_halves 9 RX8 D cA sz := (ab_enter B hml hT hR).1
  have S := (ab_enter B hml hT hR).2
  have hr := B.returns
  obtain ⟨ls, hls, hl⟩ := ab_entry m [.ref this, .int p0, .int p1] 9 (lv := [(0, .ref this), (1, .int p0), (2, .int p1)]) (by simp [lg_sl, ab_cat, ab_cI, ab_cJ, ab_cD, ab_cF, ab_cA]) (by simp [lv_args, ab_cat, ab_cI, ab_cJ, ab_cD, ab_cF, ab_cA])
  rw [hls]
  have hl : lv_has ls 9 [(0, va_rf (some this)), (1, .int p0), (2, .int p1)] := hl
  unfold f_X8_halves at hF
  show W p l e (ab_rm 6 0 0) s m _ below meth c s.heap [] 0 0 _ _
  refine ab_aload_n X dX8_halves_0 rfl (lv_at hl 0 rfl) ?_
  refine lv_iload_n X.1 X.2.1 dX8_halves_1 rfl (lv_at hl 1 rfl) ?_
  obtain ⟨a4, e5, hF⟩ := bind_out hF
  obtain ⟨x1, h2, e3, hF⟩ := bnd_out hF
  refine ab_callVa X S e5 (c_X8_runAt l D cA sz e3) rfl (by decide) mi_X8_runAt lm_X8_119 li_yX8_runAt ls_yX8_runAt (As := [.int p0]) (rest := []) rfl ⟨by decide, by decide⟩ ⟨(by decide), (by decide)⟩ hl.1 rfl (by simp [ab_cat, ab_cI, ab_cJ, ab_cD, ab_cF]) dX8_halves_2 (fun H1 locs1 S => ?_)
  refine ab_astore_n (i := 3) (lv' := [(3, va_rf x1), (0, va_rf (some this)), (1, .int p0), (2, .int p1)]) X dX8_halves_5 rfl hl (by decide) (by simp [ab_cat, ab_cI, ab_cJ, ab_cD, ab_cF]) (fun ls hl => ?_)
  refine ab_aload_n X dX8_halves_6 rfl (lv_at hl 0 rfl) ?_
  refine ab_ifnull (tgt := 28) X dX8_halves_7 (by decide) (fun c6 => ?_) (fun c6 => ?_)
  · have hF := ab_pos c6 hF
    exact w_X8_halves_28 X hr  S (lv_sub hl [] rfl) hF
  · have hF := ab_neg c6 hF
    refine ab_aload_n X dX8_halves_10 rfl (lv_at hl 0 rfl) ?_
    refine ab_getR X S hF fi_4_0 lf_X8_92 dX8_halves_11 (fun x7 hF => ?_)
    refine lv_iload_n X.1 X.2.1 dX8_halves_14 rfl (lv_at hl 3 rfl) ?_
    obtain ⟨a11, e12, hF⟩ := bind_out hF
    obtain ⟨x8, h9, e10, hF⟩ := bnd_out hF
    refine ab_callVi X S e12 (c_X1_hasVariable l D cA sz e10) rfl (by decide) mi_X1_hasVariable lm_X8_83 li_yX1_hasVariable ls_yX1_hasVariable (As := [.int p1]) (rest := []) rfl ⟨by decide, by decide⟩ ⟨(by decide), (by decide)⟩ hl.1 rfl (by simp [ab_cat, ab_cI, ab_cJ, ab_cD, ab_cF]) dX8_halves_15 (fun H1 locs1 S => ?_)
    refine lv_if_eq (tgt := 28) X.1 X.2.1 dX8_halves_18 (by decide) (fun c13 => ?_) (fun c13 => ?_)
    · have hF := ab_pos c13 hF
      exact w_X8_halves_28 X hr  S (lv_sub hl [] rfl) hF
    · have hF := ab_neg c13 hF
      refine ab_aload_n X dX8_halves_21 rfl (lv_at hl 0 rfl) ?_
      refine ab_getI X S hF fi_4_7 lf_X8_123 dX8_halves_22 (fun x14 hF => ?_)
      refine lv_if_eq (tgt := 32) X.1 X.2.1 dX8_halves_25 (by decide) (fun c15 => ?_) (fun c15 => ?_)
      · have hF := ab_pos c15 hF
        refine ab_aload_n X dX8_halves_32 rfl (lv_at hl 0 rfl) ?_
        refine ab_getR X S hF fi_4_0 lf_X8_92 dX8_halves_33 (fun x16 hF => ?_)
        refine ab_astore (lv' := [(4, va_rf x16), (3, va_rf x1), (0, va_rf (some this)), (1, .int p0), (2, .int p1)]) X dX8_halves_36 hl (by decide) (by simp [ab_cat, ab_cI, ab_cJ, ab_cD, ab_cF]) (fun ls hl => ?_)
        refine ab_aload_n X dX8_halves_38 rfl (lv_at hl 1 rfl) ?_
        refine ab_getD X S hF fi_4_4 lf_X8_156 dX8_halves_39 (fun x17 hF => ?_)
        refine lv_ldc2d (v := 4611686018427387904) X.1 X.2.1 X.2.2.2.1 (X.2.2.2.2.1 _ ld_X8_263) dX8_halves_42 ?_
        obtain ⟨x18, ev, ne, hF⟩ := ab_fopx hF
        refine lv_ddiv X.1 X.2.1 dX8_halves_45 ne ?_
        rw [ev]
        refine lv_dstore (lv' := [(5, .double x18), (4, va_rf x16), (3, va_rf x1), (0, va_rf (some this)), (1, .int p0), (2, .int p1)]) X.1 X.2.1 dX8_halves_46 hl (by decide) (by simp [ab_cat, ab_cI, ab_cJ, ab_cD, ab_cF]) (fun ls hl => ?_)
        refine ab_aload_n X dX8_halves_48 rfl (lv_at hl 3 rfl) ?_
        refine ab_getR X S hF fi_8_9 lf_X8_49 dX8_halves_49 (fun x19 hF => ?_)
        refine ab_aload X dX8_halves_52 (lv_at hl 1 rfl) ?_
        refine ab_aload_n X dX8_halves_54 rfl (lv_at hl 2 rfl) ?_
        refine ab_getI X S hF fi_4_3 lf_X8_143 dX8_halves_55 (fun x20 hF => ?_)
        refine ab_aload_n X dX8_halves_58 rfl (lv_at hl 2 rfl) ?_
        refine ab_getD X S hF fi_4_1 lf_X8_179 dX8_halves_59 (fun x21 hF => ?_)
        refine ab_aload_n X dX8_halves_62 rfl (lv_at hl 2 rfl) ?_
        refine ab_getR X S hF fi_4_2 lf_X8_127 dX8_halves_63 (fun x22 hF => ?_)
        refine ab_aload_n X dX8_halves_66 rfl (lv_at hl 2 rfl) ?_
        refine ab_getD X S hF fi_4_4 lf_X8_156 dX8_halves_67 (fun x23 hF => ?_)
        obtain ⟨a27, e28, hF⟩ := bind_out hF
        obtain ⟨x24, h25, e26, hF⟩ := bnd_out hF
        refine ab_callVi X S e28 (c_X6_make l D cA sz e26) rfl (by decide) mi_X6_make lm_X8_265 li_yX6_make ls_yX6_make (As := [va_rf x16, .int x20, .double x21, va_rf x22, .double x23]) (rest := []) rfl ⟨by decide, by decide⟩ ⟨(by decide), (by decide)⟩ hl.1 rfl (by simp [ab_cat, ab_cI, ab_cJ, ab_cD, ab_cF]) dX8_halves_70 (fun H1 locs1 S => ?_)
        refine lv_if_ne (tgt := 80) X.1 X.2.1 dX8_halves_73 (by decide) (fun c29 => ?_) (fun c29 => ?_)
        · have hF := ab_pos c29 hF
          refine ab_aload_n X dX8_halves_80 rfl (lv_at hl 3 rfl) ?_
          refine ab_getR X S hF fi_8_9 lf_X8_49 dX8_halves_81 (fun x30 hF => ?_)
          refine ab_getR X S hF fi_6_8 lf_X8_269 dX8_halves_84 (fun x31 hF => ?_)
          refine ab_getR X S hF fi_3_0 lf_X8_272 dX8_halves_87 (fun x32 hF => ?_)
          refine lv_iload_n X.1 X.2.1 dX8_halves_90 rfl (lv_at hl 5 rfl) ?_
          refine ab_aldD X S hF dX8_halves_91 (fun x33 hF => ?_)
          refine lv_dstore (lv' := [(7, .double x33), (5, .double x18), (4, va_rf x16), (3, va_rf x1), (0, va_rf (some this)), (1, .int p0), (2, .int p1)]) X.1 X.2.1 dX8_halves_92 hl (by decide) (by simp [ab_cat, ab_cI, ab_cJ, ab_cD, ab_cF]) (fun ls hl => ?_)
          refine ab_aload_n X dX8_halves_94 rfl (lv_at hl 4 rfl) ?_
          refine ab_getR X S hF fi_8_10 lf_X8_53 dX8_halves_95 (fun x34 hF => ?_)
          refine ab_aload X dX8_halves_98 (lv_at hl 2 rfl) ?_
          refine ab_aload_n X dX8_halves_100 rfl (lv_at hl 3 rfl) ?_
          refine ab_getI X S hF fi_4_3 lf_X8_143 dX8_halves_101 (fun x35 hF => ?_)
          refine ab_aload_n X dX8_halves_104 rfl (lv_at hl 3 rfl) ?_
          refine ab_getD X S hF fi_4_1 lf_X8_179 dX8_halves_105 (fun x36 hF => ?_)
          refine ab_aload_n X dX8_halves_108 rfl (lv_at hl 3 rfl) ?_
          refine ab_getR X S hF fi_4_2 lf_X8_127 dX8_halves_109 (fun x37 hF => ?_)
          refine lv_dload X.1 X.2.1 dX8_halves_112 (lv_at hl 1 rfl) ?_
          obtain ⟨a41, e42, hF⟩ := bind_out hF
          obtain ⟨x38, h39, e40, hF⟩ := bnd_out hF
          refine ab_callVi X S e42 (c_X6_make l D cA sz e40) rfl (by decide) mi_X6_make lm_X8_265 li_yX6_make ls_yX6_make (As := [va_rf x16, .int x35, .double x36, va_rf x37, .double x18]) (rest := []) rfl ⟨by decide, by decide⟩ ⟨(by decide), (by decide)⟩ hl.1 rfl (by simp [ab_cat, ab_cI, ab_cJ, ab_cD, ab_cF]) dX8_halves_114 (fun H1 locs1 S => ?_)
          refine lv_if_ne (tgt := 124) X.1 X.2.1 dX8_halves_117 (by decide) (fun c43 => ?_) (fun c43 => ?_)
          · have hF := ab_pos c43 hF
            refine ab_aload_n X dX8_halves_124 rfl (lv_at hl 4 rfl) ?_
            refine ab_getR X S hF fi_8_9 lf_X8_49 dX8_halves_125 (fun x44 hF => ?_)
            refine ab_aload X dX8_halves_128 (lv_at hl 2 rfl) ?_
            refine ab_aload_n X dX8_halves_130 rfl (lv_at hl 3 rfl) ?_
            refine ab_getI X S hF fi_4_3 lf_X8_143 dX8_halves_131 (fun x45 hF => ?_)
            refine ab_aload_n X dX8_halves_134 rfl (lv_at hl 4 rfl) ?_
            refine ab_getR X S hF fi_8_10 lf_X8_53 dX8_halves_135 (fun x46 hF => ?_)
            refine ab_getD X S hF fi_6_5 lf_X8_274 dX8_halves_138 (fun x47 hF => ?_)
            refine ab_aload_n X dX8_halves_141 rfl (lv_at hl 4 rfl) ?_
            refine ab_getR X S hF fi_8_10 lf_X8_53 dX8_halves_142 (fun x48 hF => ?_)
            refine ab_getR X S hF fi_6_8 lf_X8_269 dX8_halves_145 (fun x49 hF => ?_)
            refine lv_dload X.1 X.2.1 dX8_halves_148 (lv_at hl 1 rfl) ?_
            obtain ⟨a53, e54, hF⟩ := bind_out hF
            obtain ⟨x50, h51, e52, hF⟩ := bnd_out hF
            refine ab_callVi X S e54 (c_X6_make l D cA sz e52) rfl (by decide) mi_X6_make lm_X8_265 li_yX6_make ls_yX6_make (As := [va_rf x16, .int x45, .double x47, va_rf x49, .double x18]) (rest := []) rfl ⟨by decide, by decide⟩ ⟨(by decide), (by decide)⟩ hl.1 rfl (by simp [ab_cat, ab_cI, ab_cJ, ab_cD, ab_cF]) dX8_halves_150 (fun H1 locs1 S => ?_)
            refine lv_if_ne (tgt := 160) X.1 X.2.1 dX8_halves_153 (by decide) (fun c55 => ?_) (fun c55 => ?_)
            · have hF := ab_pos c55 hF
              refine ab_aload_n X dX8_halves_160 rfl (lv_at hl 4 rfl) ?_
              refine ab_getR X S hF fi_8_1 lf_X8_19 dX8_halves_161 (fun x56 hF => ?_)
              refine ab_aload_n X dX8_halves_164 rfl (lv_at hl 4 rfl) ?_
              refine ab_getR X S hF fi_8_9 lf_X8_49 dX8_halves_165 (fun x57 hF => ?_)
              refine ab_getR X S hF fi_6_8 lf_X8_269 dX8_halves_168 (fun x58 hF => ?_)
              refine ab_getR X S hF fi_3_0 lf_X8_272 dX8_halves_171 (fun x59 hF => ?_)
              refine lv_iload_n X.1 X.2.1 dX8_halves_174 rfl (lv_at hl 6 rfl) ?_
              refine ab_aldD X S hF dX8_halves_175 (fun x60 hF => ?_)
              refine lv_dload X.1 X.2.1 dX8_halves_176 (lv_at hl 0 rfl) ?_
              obtain ⟨x61, ev, ne, hF⟩ := ab_fopx hF
              refine lv_dsub X.1 X.2.1 dX8_halves_178 ne ?_
              rw [ev]
              obtain ⟨a65, e66, hF⟩ := bind_out hF
              obtain ⟨x62, h63, e64, hF⟩ := bnd_out hF
              refine ab_callVl X S e66 (c_X7_bits l D cA sz e64) rfl (by decide) mi_X7_bits lm_X8_196 li_yX7_bits ls_yX7_bits (As := [.double x61]) (rest := []) rfl ⟨by decide, by decide⟩ ⟨(by decide), (by decide)⟩ hl.1 rfl (by simp [ab_cat, ab_cI, ab_cJ, ab_cD, ab_cF]) dX8_halves_179 (fun H1 locs1 S => ?_)
              exact ab_lret X S hr hF dX8_halves_182
            · have hF := ab_neg (fun q => q c55) hF
              refine lv_ldc2 (v := (9221120237041090560)) X.1 X.2.1 X.2.2.2.1 (X.2.2.2.2.1 _ ll_X8_190) dX8_halves_156 ?_
              exact ab_lret X S hr hF dX8_halves_159
          · have hF := ab_neg (fun q => q c43) hF
            refine lv_ldc2 (v := (9221120237041090560)) X.1 X.2.1 X.2.2.2.1 (X.2.2.2.2.1 _ ll_X8_190) dX8_halves_120 ?_
            exact ab_lret X S hr hF dX8_halves_123
        · have hF := ab_neg (fun q => q c29) hF
          refine lv_ldc2 (v := (9221120237041090560)) X.1 X.2.1 X.2.2.2.1 (X.2.2.2.2.1 _ ll_X8_190) dX8_halves_76 ?_
          exact ab_lret X S hr hF dX8_halves_79
      · have hF := ab_neg c15 hF
        exact w_X8_halves_28 X hr  S (lv_sub hl [] rfl) hF
def f_X8_finish_69   (h : Hp) : Option (Unit × Hp) :=
  some ((), h)
set_option maxHeartbeats 4000000 in
set_option maxRecDepth 100000 in
theorem w_X8_finish_69 {p : Program} {l : Launch} {e : Env} {s : State} {m : MethodId} {args : Array Value} {below : List Frame} {meth : Method} {c : Code} {D : va_G} {cA : Nat → ClassId} {sz : Nat}  {hh : Hp}  (X : ab_X p s m args meth c cX8_finish 6 RX8 D cA sz) (hr : meth.sig.returnType = none)  {H : Heap} {locs : List Loc} {ls : Array Slot}  {h : Hp} (S : ab_H D cA sz h s H locs) (hl : lv_has ls 6 []) (hF : f_X8_finish_69  h = some ((), hh)) : W p l e (ab_rm 5 0 0) s m args below meth c H locs 0 0 (MQ below (ab_Q D cA sz none hh) args s 0 0 (fun q => sz ≤ q)) (F0 m 69 ls []) := by
  unfold f_X8_finish_69 at hF
  exact ab_vret X S hr hF dX8_finish_69
def f_X8_finish_66  (u0 : UInt64) (u1 : Option Nat) (h : Hp) : Option (Unit × Hp) :=
  (putD h u1 4 4 u0).bind fun h1 =>
  f_X8_finish_69 h1
set_option maxHeartbeats 4000000 in
set_option maxRecDepth 100000 in
theorem w_X8_finish_66 {p : Program} {l : Launch} {e : Env} {s : State} {m : MethodId} {args : Array Value} {below : List Frame} {meth : Method} {c : Code} {D : va_G} {cA : Nat → ClassId} {sz : Nat}  {hh : Hp}  (X : ab_X p s m args meth c cX8_finish 6 RX8 D cA sz) (hr : meth.sig.returnType = none)  {H : Heap} {locs : List Loc} {ls : Array Slot} {u0 : UInt64} {u1 : Option Nat} {h : Hp} (S : ab_H D cA sz h s H locs) (hl : lv_has ls 6 []) (hF : f_X8_finish_66 u0 u1 h = some ((), hh)) : W p l e (ab_rm 5 0 0) s m args below meth c H locs 0 0 (MQ below (ab_Q D cA sz none hh) args s 0 0 (fun q => sz ≤ q)) (F0 m 66 ls [.double u0, va_rf u1]) := by
  unfold f_X8_finish_66 at hF
  refine ab_putD X S hF fi_4_4 ci_4 (Or.inl rfl) rfl lf_X8_156 dX8_finish_66 (fun h1 H1 locs1 hF S => ?_)
  exact w_X8_finish_69 X hr  S (lv_sub hl [] rfl) hF
def f_X8_finish_26  (v0 : Option Nat) (v1 : Option Nat) (v2 : Int32) (h : Hp) : Option (Unit × Hp) :=
  (getI h v1 4 3).bind fun x1 =>
  if ¬ x1 = 4 then
    f_X8_finish_69 h
  else
    if ¬ v2 = 0 then
      (getR h v0 8 9).bind fun x4 =>
      (getD h x4 6 4).bind fun x5 =>
      f_X8_finish_66 x5 v1 h
    else
      (getR h v0 8 9).bind fun x6 =>
      (getD h x6 6 4).bind fun x7 =>
      (getR h v0 8 9).bind fun x8 =>
      (getD h x8 6 12).bind fun x9 =>
      bnd (f_X8_grown x7 x9 h) fun x10 h11 =>
      f_X8_finish_66 x10 v1 h11
set_option maxHeartbeats 4000000 in
set_option maxRecDepth 100000 in
theorem w_X8_finish_26 {p : Program} {l : Launch} {e : Env} {s : State} {m : MethodId} {args : Array Value} {below : List Frame} {meth : Method} {c : Code} {D : va_G} {cA : Nat → ClassId} {sz : Nat}  {hh : Hp}  (X : ab_X p s m args meth c cX8_finish 6 RX8 D cA sz) (hr : meth.sig.returnType = none)  {H : Heap} {locs : List Loc} {ls : Array Slot} {v0 : Option Nat} {v1 : Option Nat} {v2 : Int32} {h : Hp} (S : ab_H D cA sz h s H locs) (hl : lv_has ls 6 [(0, va_rf v0), (1, va_rf v1), (2, .int v2)]) (hF : f_X8_finish_26 v0 v1 v2 h = some ((), hh)) : W p l e (ab_rm 5 0 0) s m args below meth c H locs 0 0 (MQ below (ab_Q D cA sz none hh) args s 0 0 (fun q => sz ≤ q)) (F0 m 26 ls []) := by
  unfold f_X8_finish_26 at hF
  refine ab_aload_n X dX8_finish_26 rfl (lv_at hl 1 rfl) ?_
  refine ab_getI X S hF fi_4_3 lf_X8_143 dX8_finish_27 (fun x1 hF => ?_)
  refine lv_iconst (v := 4) X.1 X.2.1 dX8_finish_30 (by decide) ?_
  refine lv_icmp_ne (tgt := 69) X.1 X.2.1 dX8_finish_31 (by decide) (fun c2 => ?_) (fun c2 => ?_)
  · have hF := ab_pos c2 hF
    exact w_X8_finish_69 X hr  S (lv_sub hl [] rfl) hF
  · have hF := ab_neg (fun q => q c2) hF
    refine ab_aload_n X dX8_finish_34 rfl (lv_at hl 1 rfl) ?_
    refine lv_iload_n X.1 X.2.1 dX8_finish_35 rfl (lv_at hl 2 rfl) ?_
    refine lv_if_ne (tgt := 59) X.1 X.2.1 dX8_finish_36 (by decide) (fun c3 => ?_) (fun c3 => ?_)
    · have hF := ab_pos c3 hF
      refine ab_aload_n X dX8_finish_59 rfl (lv_at hl 0 rfl) ?_
      refine ab_getR X S hF fi_8_9 lf_X8_49 dX8_finish_60 (fun x4 hF => ?_)
      refine ab_getD X S hF fi_6_4 lf_X8_206 dX8_finish_63 (fun x5 hF => ?_)
      exact w_X8_finish_66 X hr  S (lv_sub hl [] rfl) hF
    · have hF := ab_neg (fun q => q c3) hF
      refine ab_aload_n X dX8_finish_39 rfl (lv_at hl 0 rfl) ?_
      refine ab_getR X S hF fi_8_9 lf_X8_49 dX8_finish_40 (fun x6 hF => ?_)
      refine ab_getD X S hF fi_6_4 lf_X8_206 dX8_finish_43 (fun x7 hF => ?_)
      refine ab_aload_n X dX8_finish_46 rfl (lv_at hl 0 rfl) ?_
      refine ab_getR X S hF fi_8_9 lf_X8_49 dX8_finish_47 (fun x8 hF => ?_)
      refine ab_getD X S hF fi_6_12 lf_X8_203 dX8_finish_50 (fun x9 hF => ?_)
      obtain ⟨x10, h11, e12, hF⟩ := bnd_out hF
      refine ab_callSd X S (c_X8_grown l D cA sz e12) mi_X8_grown lm_X8_307 lt_yX8_grown (As := [.double x7, .double x9]) (rest := [va_rf v1]) rfl ⟨by decide, by decide⟩ ⟨(by decide), (by decide)⟩ hl.1 rfl (by simp [ab_cat, ab_cI, ab_cJ, ab_cD, ab_cF]) dX8_finish_53 (fun H1 locs1 S => ?_)
      refine lv_goto (tgt := 66) X.1 X.2.1 dX8_finish_56 (by decide) ?_
      exact w_X8_finish_66 X hr  S (lv_sub hl [] rfl) hF
def f_X8_finish (this : Nat) (p0 : Option Nat) (p1 : Int32) (p2 : Int32) (p3 : UInt64) (h : Hp) : Option (Unit × Hp) :=
  (getR h (some this) 8 9).bind fun x1 =>
  (ab_ck h p0 (4, 0)).bind fun a5 =>
  bnd (f_X4_take a5 x1 p1 h) fun _ h3 =>
  if p2 = 0 then
    f_X8_finish_26 (some this) p0 p1 h3
  else
    if ¬ p1 = 0 then
      f_X8_finish_26 (some this) p0 p1 h3
    else
      (putD h3 p0 4 1 p3).bind fun h9 =>
      f_X8_finish_69 h9
theorem mi_X8_finish : ab_MI yX8_finish cX8_finish 6 none 4 := ⟨lc_yX8_finish, lz_RX8, by decide, by decide, by decide +kernel⟩
set_option maxHeartbeats 4000000 in
set_option maxRecDepth 100000 in
theorem c_X8_finish (l : Launch) (D : va_G) (cA : Nat → ClassId) (sz : Nat) {this : Nat} {p0 : Option Nat} {p1 : Int32} {p2 : Int32} {p3 : UInt64} {h hh : Hp}  (hF : f_X8_finish this p0 p1 p2 p3 h = some ((), hh)) : ab_C l D cA sz yX8_finish cX8_finish 6 none 5 0 0 [.ref this, va_rf p0, .int p1, .int p2, .double p3] h none hh := by
  refine Met.ofW (cc := cX8_finish) (maxL := 6) (ret := none) (by decide) rfl ?_
  intro p e s m args below meth c s₁ B hml hv
  obtain ⟨rfl, hT, hR⟩ := hv
  have X : ab_X p s m _ meth c cX8_finish 6 RX8 D cA sz := (ab_enter B hml hT hR).1
  have S := (ab_enter B hml hT hR).2
  have hr := B.returns
  obtain ⟨ls, hls, hl⟩ := ab_entry m [.ref this, va_rf p0, .int p1, .int p2, .double p3] 6 (lv := [(0, .ref this), (1, va_rf p0), (2, .int p1), (3, .int p2), (4, .double p3)]) (by simp [lg_sl, ab_cat, ab_cI, ab_cJ, ab_cD, ab_cF, ab_cA]) (by simp [lv_args, ab_cat, ab_cI, ab_cJ, ab_cD, ab_cF, ab_cA])
  rw [hls]
  have hl : lv_has ls 6 [(0, va_rf (some this)), (1, va_rf p0), (2, .int p1), (3, .int p2), (4, .double p3)] := hl
  unfold f_X8_finish at hF
  show W p l e (ab_rm 5 0 0) s m _ below meth c s.heap [] 0 0 _ _
  refine ab_aload_n X dX8_finish_0 rfl (lv_at hl 1 rfl) ?_
  refine ab_aload_n X dX8_finish_1 rfl (lv_at hl 0 rfl) ?_
  refine ab_getR X S hF fi_8_9 lf_X8_49 dX8_finish_2 (fun x1 hF => ?_)
  refine lv_iload_n X.1 X.2.1 dX8_finish_5 rfl (lv_at hl 2 rfl) ?_
  obtain ⟨a5, e6, hF⟩ := bind_out hF
  obtain ⟨x2, h3, e4, hF⟩ := bnd_out hF
  refine ab_callVv X S e6 (c_X4_take l D cA sz e4) rfl (by decide) mi_X4_take lm_X8_303 li_yX4_take ls_yX4_take (As := [va_rf x1, .int p1]) (rest := []) rfl ⟨by decide, by decide⟩ ⟨(by decide), (by decide)⟩ hl.1 rfl (by simp [ab_cat, ab_cI, ab_cJ, ab_cD, ab_cF]) dX8_finish_6 (fun H1 locs1 S => ?_)
  refine lv_iload_n X.1 X.2.1 dX8_finish_9 rfl (lv_at hl 3 rfl) ?_
  refine lv_if_eq (tgt := 26) X.1 X.2.1 dX8_finish_10 (by decide) (fun c7 => ?_) (fun c7 => ?_)
  · have hF := ab_pos c7 hF
    exact w_X8_finish_26 X hr  S (lv_sub hl [0, 1, 2] rfl) hF
  · have hF := ab_neg c7 hF
    refine lv_iload_n X.1 X.2.1 dX8_finish_13 rfl (lv_at hl 2 rfl) ?_
    refine lv_if_ne (tgt := 26) X.1 X.2.1 dX8_finish_14 (by decide) (fun c8 => ?_) (fun c8 => ?_)
    · have hF := ab_pos c8 hF
      exact w_X8_finish_26 X hr  S (lv_sub hl [0, 1, 2] rfl) hF
    · have hF := ab_neg (fun q => q c8) hF
      refine ab_aload_n X dX8_finish_17 rfl (lv_at hl 1 rfl) ?_
      refine lv_dload X.1 X.2.1 dX8_finish_18 (lv_at hl 4 rfl) ?_
      refine ab_putD X S hF fi_4_1 ci_4 (Or.inl rfl) rfl lf_X8_179 dX8_finish_20 (fun h9 H1 locs1 hF S => ?_)
      refine lv_goto (tgt := 69) X.1 X.2.1 dX8_finish_23 (by decide) ?_
      exact w_X8_finish_69 X hr  S (lv_sub hl [] rfl) hF
def f_X4_lookAtEvents_35  : Nat → Option Nat → Int32 → Hp → Option (Unit × Hp)
  | 0, _, _, _ => none
  | n + 1, v0, v1, h => (getR h v0 4 10).bind fun x1 =>
    (getI h x1 0 0).bind fun x2 =>
    if x2 ≤ v1 then
      some ((), h)
    else
      (getR h v0 4 10).bind fun x4 =>
      (ab_ck h x4 (0, 0)).bind fun a8 =>
      bnd (f_X0_earliest a8 h) fun x5 h6 =>
      if 0 ≤ x5 then
        (getR h6 v0 4 10).bind fun x11 =>
        (getR h6 x11 0 5).bind fun x12 =>
        (aldD h6 x12 x5).bind fun x13 =>
        (getR h6 v0 4 10).bind fun x14 =>
        (getR h6 v0 4 11).bind fun x15 =>
        (ab_ck h6 x15 (6, 0)).bind fun a19 =>
        bnd (f_X6_timeAt a19 x13 h6) fun x16 h17 =>
        (ab_ck h17 x14 (0, 0)).bind fun a24 =>
        bnd (f_X0_fire a24 x5 x16 h17) fun _ h22 =>
        (getR h22 v0 4 10).bind fun x26 =>
        (getR h22 x26 0 3).bind fun x27 =>
        (aldI h22 x27 11 x5).bind fun x28 =>
        if x28 = 0 then
          f_X4_lookAtEvents_35 n v0 (v1 + 1) h22
        else
          (ab_ck h22 v0 (4, 0)).bind fun a33 =>
          bnd (f_X4_act a33 x5 x13 h22) fun _ h31 =>
          some ((), h31)
      else
        some ((), h6)
set_option maxHeartbeats 4000000 in
set_option maxRecDepth 100000 in
theorem w_X4_lookAtEvents_35 {p : Program} {l : Launch} {e : Env} {s : State} {m : MethodId} {args : Array Value} {below : List Frame} {meth : Method} {c : Code} {D : va_G} {cA : Nat → ClassId} {sz : Nat}  {hh : Hp}  (X : ab_X p s m args meth c cX4_lookAtEvents 5 RX4 D cA sz) (hr : meth.sig.returnType = none)  (n : Nat) : ∀ (v0 : Option Nat) (v1 : Int32) (h : Hp) (H : Heap) (locs : List Loc) (ls : Array Slot), ab_H D cA sz h s H locs → lv_has ls 5 [(0, va_rf v0), (1, .int v1)] → f_X4_lookAtEvents_35 n v0 v1 h = some ((), hh) → W p l e (ab_rm 5 0 0) s m args below meth c H locs 0 0 (MQ below (ab_Q D cA sz none hh) args s 0 0 (fun q => sz ≤ q)) (F0 m 35 ls []) := by
  induction n with
  | zero => intro v0 v1 h H locs ls S hl hF; cases hF
  | succ n ih =>
    intro v0 v1 h H locs ls S hl hF
    rw [f_X4_lookAtEvents_35] at hF
    refine lv_iload_n X.1 X.2.1 dX4_lookAtEvents_35 rfl (lv_at hl 1 rfl) ?_
    refine ab_aload_n X dX4_lookAtEvents_36 rfl (lv_at hl 0 rfl) ?_
    refine ab_getR X S hF fi_4_10 lf_X4_48 dX4_lookAtEvents_37 (fun x1 hF => ?_)
    refine ab_getI X S hF fi_0_0 lf_X4_90 dX4_lookAtEvents_40 (fun x2 hF => ?_)
    refine lv_icmp_ge (tgt := 110) X.1 X.2.1 dX4_lookAtEvents_43 (by decide) (fun c3 => ?_) (fun c3 => ?_)
    · have hF := ab_pos c3 hF
      exact ab_vret X S hr hF dX4_lookAtEvents_110
    · have hF := ab_neg c3 hF
      refine ab_aload_n X dX4_lookAtEvents_46 rfl (lv_at hl 0 rfl) ?_
      refine ab_getR X S hF fi_4_10 lf_X4_48 dX4_lookAtEvents_47 (fun x4 hF => ?_)
      obtain ⟨a8, e9, hF⟩ := bind_out hF
      obtain ⟨x5, h6, e7, hF⟩ := bnd_out hF
      refine ab_callVi X S e9 (c_X0_earliest l D cA sz e7) rfl (by decide) mi_X0_earliest lm_X4_101 li_yX0_earliest ls_yX0_earliest (As := []) (rest := []) rfl ⟨by decide, by decide⟩ ⟨(by decide), (by decide)⟩ hl.1 rfl (by simp [ab_cat, ab_cI, ab_cJ, ab_cD, ab_cF]) dX4_lookAtEvents_50 (fun H1 locs1 S => ?_)
      refine lv_istore_n (i := 2) (lv' := [(2, .int x5), (0, va_rf v0), (1, .int v1)]) X.1 X.2.1 dX4_lookAtEvents_53 rfl hl (by decide) (by simp [ab_cat, ab_cI, ab_cJ, ab_cD, ab_cF]) (fun ls hl => ?_)
      refine lv_iload_n X.1 X.2.1 dX4_lookAtEvents_54 rfl (lv_at hl 0 rfl) ?_
      refine lv_if_ge (tgt := 59) X.1 X.2.1 dX4_lookAtEvents_55 (by decide) (fun c10 => ?_) (fun c10 => ?_)
      · have hF := ab_pos c10 hF
        refine ab_aload_n X dX4_lookAtEvents_59 rfl (lv_at hl 1 rfl) ?_
        refine ab_getR X S hF fi_4_10 lf_X4_48 dX4_lookAtEvents_60 (fun x11 hF => ?_)
        refine ab_getR X S hF fi_0_5 lf_X4_93 dX4_lookAtEvents_63 (fun x12 hF => ?_)
        refine lv_iload_n X.1 X.2.1 dX4_lookAtEvents_66 rfl (lv_at hl 0 rfl) ?_
        refine ab_aldD X S hF dX4_lookAtEvents_67 (fun x13 hF => ?_)
        refine lv_dstore_n (i := 3) (lv' := [(3, .double x13), (2, .int x5), (0, va_rf v0), (1, .int v1)]) X.1 X.2.1 dX4_lookAtEvents_68 rfl hl (by decide) (by simp [ab_cat, ab_cI, ab_cJ, ab_cD, ab_cF]) (fun ls hl => ?_)
        refine ab_aload_n X dX4_lookAtEvents_69 rfl (lv_at hl 2 rfl) ?_
        refine ab_getR X S hF fi_4_10 lf_X4_48 dX4_lookAtEvents_70 (fun x14 hF => ?_)
        refine lv_iload_n X.1 X.2.1 dX4_lookAtEvents_73 rfl (lv_at hl 1 rfl) ?_
        refine ab_aload_n X dX4_lookAtEvents_74 rfl (lv_at hl 2 rfl) ?_
        refine ab_getR X S hF fi_4_11 lf_X4_57 dX4_lookAtEvents_75 (fun x15 hF => ?_)
        refine lv_dload_n X.1 X.2.1 dX4_lookAtEvents_78 rfl (lv_at hl 0 rfl) ?_
        obtain ⟨a19, e20, hF⟩ := bind_out hF
        obtain ⟨x16, h17, e18, hF⟩ := bnd_out hF
        refine ab_callVd X S e20 (c_X6_timeAt l D cA sz e18) rfl (by decide) mi_X6_timeAt lm_X4_105 li_yX6_timeAt ls_yX6_timeAt (As := [.double x13]) (rest := [.int x5, va_rf x14]) rfl ⟨by decide, by decide⟩ ⟨(by decide), (by decide)⟩ hl.1 rfl (by simp [ab_cat, ab_cI, ab_cJ, ab_cD, ab_cF]) dX4_lookAtEvents_79 (fun H1 locs1 S => ?_)
        obtain ⟨a24, e25, hF⟩ := bind_out hF
        obtain ⟨x21, h22, e23, hF⟩ := bnd_out hF
        refine ab_callVv X S e25 (c_X0_fire l D cA sz e23) rfl (by decide) mi_X0_fire lm_X4_109 li_yX0_fire ls_yX0_fire (As := [.int x5, .double x16]) (rest := []) rfl ⟨by decide, by decide⟩ ⟨(by decide), (by decide)⟩ hl.1 rfl (by simp [ab_cat, ab_cI, ab_cJ, ab_cD, ab_cF]) dX4_lookAtEvents_82 (fun H1 locs1 S => ?_)
        refine ab_aload_n X dX4_lookAtEvents_85 rfl (lv_at hl 2 rfl) ?_
        refine ab_getR X S hF fi_4_10 lf_X4_48 dX4_lookAtEvents_86 (fun x26 hF => ?_)
        refine ab_getR X S hF fi_0_3 lf_X4_113 dX4_lookAtEvents_89 (fun x27 hF => ?_)
        refine lv_iload_n X.1 X.2.1 dX4_lookAtEvents_92 rfl (lv_at hl 1 rfl) ?_
        refine ab_aldI X S hF dX4_lookAtEvents_93 (fun x28 hF => ?_)
        refine lv_if_eq (tgt := 104) X.1 X.2.1 dX4_lookAtEvents_94 (by decide) (fun c29 => ?_) (fun c29 => ?_)
        · have hF := ab_pos c29 hF
          refine lv_iinc (v := v1 + 1) (lv' := [(1, .int (v1 + 1)), (3, .double x13), (2, .int x5), (0, va_rf v0)]) X.1 X.2.1 dX4_lookAtEvents_104 hl (k := 3) rfl (by rfl) (by decide) (by simp [ab_cat, ab_cI, ab_cJ, ab_cD, ab_cF]) (fun ls hl => ?_)
          refine lv_goto (tgt := 35) X.1 X.2.1 dX4_lookAtEvents_107 (by decide) ?_
          exact ih _ _ _ _ _ _ S (lv_sub hl [3, 0] rfl) hF
        · have hF := ab_neg c29 hF
          refine ab_aload_n X dX4_lookAtEvents_97 rfl (lv_at hl 2 rfl) ?_
          refine lv_iload_n X.1 X.2.1 dX4_lookAtEvents_98 rfl (lv_at hl 1 rfl) ?_
          refine lv_dload_n X.1 X.2.1 dX4_lookAtEvents_99 rfl (lv_at hl 0 rfl) ?_
          obtain ⟨a33, e34, hF⟩ := bind_out hF
          obtain ⟨x30, h31, e32, hF⟩ := bnd_out hF
          refine ab_callVv X S e34 (c_X4_act l D cA sz e32) rfl (by decide) mi_X4_act lm_X4_117 li_yX4_act ls_yX4_act (As := [.int x5, .double x13]) (rest := []) rfl ⟨by decide, by decide⟩ ⟨(by decide), (by decide)⟩ hl.1 rfl (by simp [ab_cat, ab_cI, ab_cJ, ab_cD, ab_cF]) dX4_lookAtEvents_100 (fun H1 locs1 S => ?_)
          exact ab_vret X S hr hF dX4_lookAtEvents_103
      · have hF := ab_neg c10 hF
        exact ab_vret X S hr hF dX4_lookAtEvents_58
def f_X4_lookAtEvents_2  : Nat → Option Nat → Int32 → Hp → Option (Unit × Hp)
  | 0, _, _, _ => none
  | n + 1, v0, v1, h => (getR h v0 4 10).bind fun x1 =>
    (getI h x1 0 0).bind fun x2 =>
    if x2 ≤ v1 then
      f_X4_lookAtEvents_35 fuelN v0 0 h
    else
      (getR h v0 4 10).bind fun x4 =>
      (getR h x4 0 5).bind fun x5 =>
      (ab_ck h v0 (4, 0)).bind fun a9 =>
      bnd (f_X4_highOf a9 v1 h) fun x6 h7 =>
      (astD h7 x5 v1 x6).bind fun h11 =>
      f_X4_lookAtEvents_2 n v0 (v1 + 1) h11
set_option maxHeartbeats 4000000 in
set_option maxRecDepth 100000 in
theorem w_X4_lookAtEvents_2 {p : Program} {l : Launch} {e : Env} {s : State} {m : MethodId} {args : Array Value} {below : List Frame} {meth : Method} {c : Code} {D : va_G} {cA : Nat → ClassId} {sz : Nat}  {hh : Hp}  (X : ab_X p s m args meth c cX4_lookAtEvents 5 RX4 D cA sz) (hr : meth.sig.returnType = none)  (n : Nat) : ∀ (v0 : Option Nat) (v1 : Int32) (h : Hp) (H : Heap) (locs : List Loc) (ls : Array Slot), ab_H D cA sz h s H locs → lv_has ls 5 [(0, va_rf v0), (1, .int v1)] → f_X4_lookAtEvents_2 n v0 v1 h = some ((), hh) → W p l e (ab_rm 5 0 0) s m args below meth c H locs 0 0 (MQ below (ab_Q D cA sz none hh) args s 0 0 (fun q => sz ≤ q)) (F0 m 2 ls []) := by
  induction n with
  | zero => intro v0 v1 h H locs ls S hl hF; cases hF
  | succ n ih =>
    intro v0 v1 h H locs ls S hl hF
    rw [f_X4_lookAtEvents_2] at hF
    refine lv_iload_n X.1 X.2.1 dX4_lookAtEvents_2 rfl (lv_at hl 1 rfl) ?_
    refine ab_aload_n X dX4_lookAtEvents_3 rfl (lv_at hl 0 rfl) ?_
    refine ab_getR X S hF fi_4_10 lf_X4_48 dX4_lookAtEvents_4 (fun x1 hF => ?_)
    refine ab_getI X S hF fi_0_0 lf_X4_90 dX4_lookAtEvents_7 (fun x2 hF => ?_)
    refine lv_icmp_ge (tgt := 33) X.1 X.2.1 dX4_lookAtEvents_10 (by decide) (fun c3 => ?_) (fun c3 => ?_)
    · have hF := ab_pos c3 hF
      refine lv_iconst (v := 0) X.1 X.2.1 dX4_lookAtEvents_33 (by decide) ?_
      refine lv_istore_n (i := 1) (lv' := [(1, .int 0), (0, va_rf v0)]) X.1 X.2.1 dX4_lookAtEvents_34 rfl hl (by decide) (by simp [ab_cat, ab_cI, ab_cJ, ab_cD, ab_cF]) (fun ls hl => ?_)
      exact w_X4_lookAtEvents_35 X hr  fuelN _ _ _ _ _ _ S (lv_sub hl [1, 0] rfl) hF
    · have hF := ab_neg c3 hF
      refine ab_aload_n X dX4_lookAtEvents_13 rfl (lv_at hl 0 rfl) ?_
      refine ab_getR X S hF fi_4_10 lf_X4_48 dX4_lookAtEvents_14 (fun x4 hF => ?_)
      refine ab_getR X S hF fi_0_5 lf_X4_93 dX4_lookAtEvents_17 (fun x5 hF => ?_)
      refine lv_iload_n X.1 X.2.1 dX4_lookAtEvents_20 rfl (lv_at hl 1 rfl) ?_
      refine ab_aload_n X dX4_lookAtEvents_21 rfl (lv_at hl 0 rfl) ?_
      refine lv_iload_n X.1 X.2.1 dX4_lookAtEvents_22 rfl (lv_at hl 1 rfl) ?_
      obtain ⟨a9, e10, hF⟩ := bind_out hF
      obtain ⟨x6, h7, e8, hF⟩ := bnd_out hF
      refine ab_callVd X S e10 (c_X4_highOf l D cA sz e8) rfl (by decide) mi_X4_highOf lm_X4_97 li_yX4_highOf ls_yX4_highOf (As := [.int v1]) (rest := [.int v1, va_rf x5]) rfl ⟨by decide, by decide⟩ ⟨(by decide), (by decide)⟩ hl.1 rfl (by simp [ab_cat, ab_cI, ab_cJ, ab_cD, ab_cF]) dX4_lookAtEvents_23 (fun H1 locs1 S => ?_)
      refine ab_astD X S hF dX4_lookAtEvents_26 (fun h11 H1 locs1 hF S => ?_)
      refine lv_iinc (v := v1 + 1) (lv' := [(1, .int (v1 + 1)), (0, va_rf v0)]) X.1 X.2.1 dX4_lookAtEvents_27 hl (k := 1) rfl (by rfl) (by decide) (by simp [ab_cat, ab_cI, ab_cJ, ab_cD, ab_cF]) (fun ls hl => ?_)
      refine lv_goto (tgt := 2) X.1 X.2.1 dX4_lookAtEvents_30 (by decide) ?_
      exact ih _ _ _ _ _ _ S (lv_sub hl [1, 0] rfl) hF
def f_X4_lookAtEvents (this : Nat) (h : Hp) : Option (Unit × Hp) :=
  f_X4_lookAtEvents_2 fuelN (some this) 0 h
theorem mi_X4_lookAtEvents : ab_MI yX4_lookAtEvents cX4_lookAtEvents 5 none 0 := ⟨lc_yX4_lookAtEvents, lz_RX4, by decide, by decide, by decide +kernel⟩
set_option maxHeartbeats 4000000 in
set_option maxRecDepth 100000 in
theorem c_X4_lookAtEvents (l : Launch) (D : va_G) (cA : Nat → ClassId) (sz : Nat) {this : Nat} {h hh : Hp}  (hF : f_X4_lookAtEvents this h = some ((), hh)) : ab_C l D cA sz yX4_lookAtEvents cX4_lookAtEvents 5 none 5 0 0 [.ref this] h none hh := by
  refine Met.ofW (cc := cX4_lookAtEvents) (maxL := 5) (ret := none) (by decide) rfl ?_
  intro p e s m args below meth c s₁ B hml hv
  obtain ⟨rfl, hT, hR⟩ := hv
  have X : ab_X p s m _ meth c cX4_lookAtEvents 5 RX4 D cA sz := (ab_enter B hml hT hR).1
  have S := (ab_enter B hml hT hR).2
  have hr := B.returns
  obtain ⟨ls, hls, hl⟩ := ab_entry m [.ref this] 5 (lv := [(0, .ref this)]) (by simp [lg_sl, ab_cat, ab_cI, ab_cJ, ab_cD, ab_cF, ab_cA]) (by simp [lv_args, ab_cat, ab_cI, ab_cJ, ab_cD, ab_cF, ab_cA])
  rw [hls]
  have hl : lv_has ls 5 [(0, va_rf (some this))] := hl
  unfold f_X4_lookAtEvents at hF
  show W p l e (ab_rm 5 0 0) s m _ below meth c s.heap [] 0 0 _ _
  refine lv_iconst (v := 0) X.1 X.2.1 dX4_lookAtEvents_0 (by decide) ?_
  refine lv_istore_n (i := 1) (lv' := [(1, .int 0), (0, va_rf (some this))]) X.1 X.2.1 dX4_lookAtEvents_1 rfl hl (by decide) (by simp [ab_cat, ab_cI, ab_cJ, ab_cD, ab_cF]) (fun ls hl => ?_)
  exact w_X4_lookAtEvents_2 X hr  fuelN _ _ _ _ _ _ S (lv_sub hl [1, 0] rfl) hF
