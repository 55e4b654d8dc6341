def f_X9_bits_16  (u0 : Int64) (h : Hp) : Option (Int64 × Hp) :=
  some (u0, h)
set_option maxHeartbeats 4000000 in
set_option maxRecDepth 100000 in
theorem w_X9_bits_16 {p : Program} {l : Launch} {e : Env} {s : State} {m : MethodId} {args : Array Value} {below : List Frame} {meth : Method} {c : Code} {D : va_G} {cA : Nat → ClassId} {sz : Nat} {rr : Int64} {hh : Hp}  (X : ab_X p s m args meth c cX9_bits 2 RX9 D cA sz) (hr : meth.sig.returnType = (some .long))  {H : Heap} {locs : List Loc} {ls : Array Slot} {u0 : Int64} {h : Hp} (S : ab_H D cA sz h s H locs) (hl : lv_has ls 2 []) (hF : f_X9_bits_16 u0 h = some (rr, hh)) : W p l e (ab_rm 2 0 0) s m args below meth c H locs 0 0 (MQ below (ab_Q D cA sz (some (.long rr)) hh) args s 0 0 (fun q => sz ≤ q)) (F0 m 16 ls [.long u0]) := by
  unfold f_X9_bits_16 at hF
  exact ab_lret X S hr hF dX9_bits_16
def f_X9_bits (p0 : UInt64) (h : Hp) : Option (Int64 × Hp) :=
  if (Op.cmpValue (FP.dcmp p0 p0) CmpOp.l) = 0 then
    bnd (f_Jxe99ae_doubleToLongBits_ccdee p0 h) fun x2 h3 =>
    f_X9_bits_16 x2 h3
  else
    f_X9_bits_16 (9221120237041090560) h
theorem mi_X9_bits : ab_MI yX9_bits cX9_bits 2 (some .long) 1 := ⟨lc_yX9_bits, lz_RX9, by decide, by decide, by decide +kernel⟩
set_option maxHeartbeats 4000000 in
set_option maxRecDepth 100000 in
theorem c_X9_bits (l : Launch) (D : va_G) (cA : Nat → ClassId) (sz : Nat) {p0 : UInt64} {h hh : Hp} {rr : Int64} (hF : f_X9_bits p0 h = some (rr, hh)) : ab_C l D cA sz yX9_bits cX9_bits 2 (some .long) 2 0 0 [.double p0] h (some (.long rr)) hh := by
  refine Met.ofW (cc := cX9_bits) (maxL := 2) (ret := (some .long)) (by decide) rfl ?_
  intro p e s m args below meth c s₁ B hml hv
  obtain ⟨rfl, hT, hR⟩ := hv
  have X : ab_X p s m _ meth c cX9_bits 2 RX9 D cA sz := (ab_enter B hml hT hR).1
  have S := (ab_enter B hml hT hR).2
  have hr := B.returns
  obtain ⟨ls, hls, hl⟩ := ab_entry m [.double p0] 2 (lv := [(0, .double p0)]) (by simp [lg_sl, ab_cat, ab_cI, ab_cJ, ab_cD, ab_cF, ab_cA]) (by simp [lv_args, ab_cat, ab_cI, ab_cJ, ab_cD, ab_cF, ab_cA])
  rw [hls]
  have hl : lv_has ls 2 [(0, .double p0)] := hl
  unfold f_X9_bits at hF
  show W p l e (ab_rm 2 0 0) s m _ below meth c s.heap [] 0 0 _ _
  refine lv_dload_n X.1 X.2.1 dX9_bits_0 rfl (lv_at hl 0 rfl) ?_
  refine lv_dload_n X.1 X.2.1 dX9_bits_1 rfl (lv_at hl 0 rfl) ?_
  refine lv_dcmp X.1 X.2.1 dX9_bits_2 ?_
  refine lv_if_eq (tgt := 12) X.1 X.2.1 dX9_bits_3 (by decide) (fun c1 => ?_) (fun c1 => ?_)
  · have hF := ab_pos c1 hF
    refine lv_dload_n X.1 X.2.1 dX9_bits_12 rfl (lv_at hl 0 rfl) ?_
    obtain ⟨x2, h3, e4, hF⟩ := bnd_out hF
    refine ab_callSl X S (c_Jxe99ae_doubleToLongBits_ccdee l D cA sz e4) mi_Jxe99ae_doubleToLongBits_ccdee lm_X9_200 lt_yJxe99ae_doubleToLongBits_ccdee (As := [.double p0]) (rest := []) rfl ⟨by decide, by decide⟩ ⟨by decide, by decide⟩ hl.1 rfl (by simp [ab_cat, ab_cI, ab_cJ, ab_cD, ab_cF]) dX9_bits_13 (fun H1 locs1 S => ?_)
    exact w_X9_bits_16 X hr  S (lv_sub hl [] rfl) hF
  · have hF := ab_neg c1 hF
    refine lv_ldc2 (v := (9221120237041090560)) X.1 X.2.1 X.2.2.2.1 (X.2.2.2.2.1 _ ll_X9_198) dX9_bits_6 ?_
    refine lv_goto (tgt := 16) X.1 X.2.1 dX9_bits_9 (by decide) ?_
    exact w_X9_bits_16 X hr  S (lv_sub hl [] rfl) hF
def f_X9_made_215  (u0 : Int32) (h : Hp) : Option (Int32 × Hp) :=
  if u0 = 0 ∨ u0 = 1 then some (u0, h) else none
set_option maxHeartbeats 4000000 in
set_option maxRecDepth 100000 in
theorem w_X9_made_215 {p : Program} {l : Launch} {e : Env} {s : State} {m : MethodId} {args : Array Value} {below : List Frame} {meth : Method} {c : Code} {D : va_G} {cA : Nat → ClassId} {sz : Nat} {rr : Int32} {hh : Hp}  (X : ab_X p s m args meth c cX9_made 9 RX9 D cA sz) (hr : meth.sig.returnType = (some .boolean))  {H : Heap} {locs : List Loc} {ls : Array Slot} {u0 : Int32} {h : Hp} (S : ab_H D cA sz h s H locs) (hl : lv_has ls 9 []) (hF : f_X9_made_215 u0 h = some (rr, hh)) : W p l e (ab_rm 7 0 0) s m args below meth c H locs 0 0 (MQ below (ab_Q D cA sz (some (.int rr)) hh) args s 0 0 (fun q => sz ≤ q)) (F0 m 215 ls [.int u0]) := by
  unfold f_X9_made_215 at hF
  exact ab_zret X S hr hF dX9_made_215
def f_X9_made_210   (h : Hp) : Option (Int32 × Hp) :=
  f_X9_made_215 1 h
set_option maxHeartbeats 4000000 in
set_option maxRecDepth 100000 in
theorem w_X9_made_210 {p : Program} {l : Launch} {e : Env} {s : State} {m : MethodId} {args : Array Value} {below : List Frame} {meth : Method} {c : Code} {D : va_G} {cA : Nat → ClassId} {sz : Nat} {rr : Int32} {hh : Hp}  (X : ab_X p s m args meth c cX9_made 9 RX9 D cA sz) (hr : meth.sig.returnType = (some .boolean))  {H : Heap} {locs : List Loc} {ls : Array Slot}  {h : Hp} (S : ab_H D cA sz h s H locs) (hl : lv_has ls 9 []) (hF : f_X9_made_210  h = some (rr, hh)) : W p l e (ab_rm 7 0 0) s m args below meth c H locs 0 0 (MQ below (ab_Q D cA sz (some (.int rr)) hh) args s 0 0 (fun q => sz ≤ q)) (F0 m 210 ls []) := by
  unfold f_X9_made_210 at hF
  refine lv_iconst (v := 1) X.1 X.2.1 dX9_made_210 (by decide) ?_
  refine lv_goto (tgt := 215) X.1 X.2.1 dX9_made_211 (by decide) ?_
  exact w_X9_made_215 X hr  S (lv_sub hl [] rfl) hF
def f_X9_made_184 (k_151 : Option Nat → UInt64 → UInt64 → Int32 → Int32 → Hp → Option (Int32 × Hp)) (v0 : Option Nat) (v3 : UInt64) (v5 : UInt64) (v7 : Int32) (v8 : Int32) (u0 : Int32) (u1 : Option Nat) (h : Hp) : Option (Int32 × Hp) :=
  (putZ h u1 9 60 u0).bind fun h1 =>
  k_151 v0 v3 v5 v7 (v8 + 1) h1
set_option maxHeartbeats 4000000 in
set_option maxRecDepth 100000 in
theorem w_X9_made_184 {p : Program} {l : Launch} {e : Env} {s : State} {m : MethodId} {args : Array Value} {below : List Frame} {meth : Method} {c : Code} {D : va_G} {cA : Nat → ClassId} {sz : Nat} {rr : Int32} {hh : Hp} {k_151 : Option Nat → UInt64 → UInt64 → Int32 → Int32 → Hp → Option (Int32 × Hp)} (X : ab_X p s m args meth c cX9_made 9 RX9 D cA sz) (hr : meth.sig.returnType = (some .boolean)) (hk_151 : ∀ (v0 : Option Nat) (v3 : UInt64) (v5 : UInt64) (v7 : Int32) (v8 : Int32) (h : Hp) (H : Heap) (locs : List Loc) (ls : Array Slot), ab_H D cA sz h s H locs → lv_has ls 9 [(0, va_rf v0), (3, .double v3), (5, .double v5), (7, .int v7), (8, .int v8)] → k_151 v0 v3 v5 v7 v8 h = some (rr, hh) → W p l e (ab_rm 7 0 0) s m args below meth c H locs 0 0 (MQ below (ab_Q D cA sz (some (.int rr)) hh) args s 0 0 (fun q => sz ≤ q)) (F0 m 151 ls [])) {H : Heap} {locs : List Loc} {ls : Array Slot} {v0 : Option Nat} {v3 : UInt64} {v5 : UInt64} {v7 : Int32} {v8 : Int32} {u0 : Int32} {u1 : Option Nat} {h : Hp} (S : ab_H D cA sz h s H locs) (hl : lv_has ls 9 [(0, va_rf v0), (3, .double v3), (5, .double v5), (7, .int v7), (8, .int v8)]) (hF : f_X9_made_184 k_151 v0 v3 v5 v7 v8 u0 u1 h = some (rr, hh)) : W p l e (ab_rm 7 0 0) s m args below meth c H locs 0 0 (MQ below (ab_Q D cA sz (some (.int rr)) hh) args s 0 0 (fun q => sz ≤ q)) (F0 m 184 ls [.int u0, va_rf u1]) := by
  unfold f_X9_made_184 at hF
  refine ab_putZ X S hF fi_9_60 ci_9 (Or.inl rfl) rfl lf_X9_246 dX9_made_184 (fun h1 H1 locs1 hF S => ?_)
  refine lv_iinc (v := v8 + 1) (lv' := [(8, .int (v8 + 1)), (0, va_rf v0), (3, .double v3), (5, .double v5), (7, .int v7)]) X.1 X.2.1 dX9_made_187 hl (k := 4) rfl (by rfl) (by decide) (by simp [ab_cat, ab_cI, ab_cJ, ab_cD, ab_cF]) (fun ls hl => ?_)
  refine lv_goto (tgt := 151) X.1 X.2.1 dX9_made_190 (by decide) ?_
  exact hk_151 _ _ _ _ _ _ _ _ _ S (lv_sub hl [1, 2, 3, 4, 0] rfl) hF
def f_X9_made_179 (k_151 : Option Nat → UInt64 → UInt64 → Int32 → Int32 → Hp → Option (Int32 × Hp)) (v0 : Option Nat) (v3 : UInt64) (v5 : UInt64) (v7 : Int32) (v8 : Int32) (u0 : Option Nat) (h : Hp) : Option (Int32 × Hp) :=
  f_X9_made_184 k_151 v0 v3 v5 v7 v8 1 u0 h
set_option maxHeartbeats 4000000 in
set_option maxRecDepth 100000 in
theorem w_X9_made_179 {p : Program} {l : Launch} {e : Env} {s : State} {m : MethodId} {args : Array Value} {below : List Frame} {meth : Method} {c : Code} {D : va_G} {cA : Nat → ClassId} {sz : Nat} {rr : Int32} {hh : Hp} {k_151 : Option Nat → UInt64 → UInt64 → Int32 → Int32 → Hp → Option (Int32 × Hp)} (X : ab_X p s m args meth c cX9_made 9 RX9 D cA sz) (hr : meth.sig.returnType = (some .boolean)) (hk_151 : ∀ (v0 : Option Nat) (v3 : UInt64) (v5 : UInt64) (v7 : Int32) (v8 : Int32) (h : Hp) (H : Heap) (locs : List Loc) (ls : Array Slot), ab_H D cA sz h s H locs → lv_has ls 9 [(0, va_rf v0), (3, .double v3), (5, .double v5), (7, .int v7), (8, .int v8)] → k_151 v0 v3 v5 v7 v8 h = some (rr, hh) → W p l e (ab_rm 7 0 0) s m args below meth c H locs 0 0 (MQ below (ab_Q D cA sz (some (.int rr)) hh) args s 0 0 (fun q => sz ≤ q)) (F0 m 151 ls [])) {H : Heap} {locs : List Loc} {ls : Array Slot} {v0 : Option Nat} {v3 : UInt64} {v5 : UInt64} {v7 : Int32} {v8 : Int32} {u0 : Option Nat} {h : Hp} (S : ab_H D cA sz h s H locs) (hl : lv_has ls 9 [(0, va_rf v0), (3, .double v3), (5, .double v5), (7, .int v7), (8, .int v8)]) (hF : f_X9_made_179 k_151 v0 v3 v5 v7 v8 u0 h = some (rr, hh)) : W p l e (ab_rm 7 0 0) s m args below meth c H locs 0 0 (MQ below (ab_Q D cA sz (some (.int rr)) hh) args s 0 0 (fun q => sz ≤ q)) (F0 m 179 ls [va_rf u0]) := by
  unfold f_X9_made_179 at hF
  refine lv_iconst (v := 1) X.1 X.2.1 dX9_made_179 (by decide) ?_
  refine lv_goto (tgt := 184) X.1 X.2.1 dX9_made_180 (by decide) ?_
  exact w_X9_made_184 X hr hk_151 S (lv_sub hl [0, 1, 2, 3, 4] rfl) hF
def f_X9_made_151  : Nat → Option Nat → UInt64 → UInt64 → Int32 → Int32 → Hp → Option (Int32 × Hp)
  | 0, _, _, _, _, _, _ => none
  | n + 1, v0, v3, v5, v7, v8, h => if v7 ≤ v8 then
      (getI h v0 9 60).bind fun x2 =>
      if ¬ x2 = 0 then
        f_X9_made_210 h
      else
        (fop (FP.dadd v3 v5)).bind fun x4 =>
        bnd (f_X9_isFinite x4 h) fun x5 h6 =>
        if ¬ x5 = 0 then
          f_X9_made_215 0 h6
        else
          f_X9_made_210 h6
    else
      (getI h v0 9 60).bind fun x9 =>
      if ¬ x9 = 0 then
        f_X9_made_179 (f_X9_made_151 n) v0 v3 v5 v7 v8 v0 h
      else
        (getR h v0 9 49).bind fun x11 =>
        (aldD h x11 v8).bind fun x12 =>
        bnd (f_X9_isFinite x12 h) fun x13 h14 =>
        if ¬ x13 = 0 then
          f_X9_made_184 (f_X9_made_151 n) v0 v3 v5 v7 v8 0 v0 h14
        else
          f_X9_made_179 (f_X9_made_151 n) v0 v3 v5 v7 v8 v0 h14
set_option maxHeartbeats 4000000 in
set_option maxRecDepth 100000 in
theorem w_X9_made_151 {p : Program} {l : Launch} {e : Env} {s : State} {m : MethodId} {args : Array Value} {below : List Frame} {meth : Method} {c : Code} {D : va_G} {cA : Nat → ClassId} {sz : Nat} {rr : Int32} {hh : Hp}  (X : ab_X p s m args meth c cX9_made 9 RX9 D cA sz) (hr : meth.sig.returnType = (some .boolean))  (n : Nat) : ∀ (v0 : Option Nat) (v3 : UInt64) (v5 : UInt64) (v7 : Int32) (v8 : Int32) (h : Hp) (H : Heap) (locs : List Loc) (ls : Array Slot), ab_H D cA sz h s H locs → lv_has ls 9 [(0, va_rf v0), (3, .double v3), (5, .double v5), (7, .int v7), (8, .int v8)] → f_X9_made_151 n v0 v3 v5 v7 v8 h = some (rr, hh) → W p l e (ab_rm 7 0 0) s m args below meth c H locs 0 0 (MQ below (ab_Q D cA sz (some (.int rr)) hh) args s 0 0 (fun q => sz ≤ q)) (F0 m 151 ls []) := by
  induction n with
  | zero => intro v0 v3 v5 v7 v8 h H locs ls S hl hF; cases hF
  | succ n ih =>
    intro v0 v3 v5 v7 v8 h H locs ls S hl hF
    rw [f_X9_made_151] at hF
    refine lv_iload X.1 X.2.1 dX9_made_151 (lv_at hl 4 rfl) ?_
    refine lv_iload X.1 X.2.1 dX9_made_153 (lv_at hl 3 rfl) ?_
    refine lv_icmp_ge (tgt := 193) X.1 X.2.1 dX9_made_155 (by decide) (fun c1 => ?_) (fun c1 => ?_)
    · have hF := ab_pos c1 hF
      refine ab_aload_n X dX9_made_193 rfl (lv_at hl 0 rfl) ?_
      refine ab_getI X S hF fi_9_60 lf_X9_246 dX9_made_194 (fun x2 hF => ?_)
      refine lv_if_ne (tgt := 210) X.1 X.2.1 dX9_made_197 (by decide) (fun c3 => ?_) (fun c3 => ?_)
      · have hF := ab_pos c3 hF
        exact w_X9_made_210 X hr  S (lv_sub hl [] rfl) hF
      · have hF := ab_neg (fun q => q c3) hF
        refine lv_dload_n X.1 X.2.1 dX9_made_200 rfl (lv_at hl 1 rfl) ?_
        refine lv_dload X.1 X.2.1 dX9_made_201 (lv_at hl 2 rfl) ?_
        obtain ⟨x4, ev, ne, hF⟩ := ab_fopx hF
        refine lv_dadd X.1 X.2.1 dX9_made_203 ne ?_
        rw [ev]
        obtain ⟨x5, h6, e7, hF⟩ := bnd_out hF
        refine ab_callSi X S (c_X9_isFinite l D cA sz e7) mi_X9_isFinite lm_X9_193 lt_yX9_isFinite (As := [.double x4]) (rest := []) rfl ⟨by decide, by decide⟩ ⟨by decide, by decide⟩ hl.1 rfl (by simp [ab_cat, ab_cI, ab_cJ, ab_cD, ab_cF]) dX9_made_204 (fun H1 locs1 S => ?_)
        refine lv_if_ne (tgt := 214) X.1 X.2.1 dX9_made_207 (by decide) (fun c8 => ?_) (fun c8 => ?_)
        · have hF := ab_pos c8 hF
          refine lv_iconst (v := 0) X.1 X.2.1 dX9_made_214 (by decide) ?_
          exact w_X9_made_215 X hr  S (lv_sub hl [] rfl) hF
        · have hF := ab_neg (fun q => q c8) hF
          exact w_X9_made_210 X hr  S (lv_sub hl [] rfl) hF
    · have hF := ab_neg c1 hF
      refine ab_aload_n X dX9_made_158 rfl (lv_at hl 0 rfl) ?_
      refine ab_aload_n X dX9_made_159 rfl (lv_at hl 0 rfl) ?_
      refine ab_getI X S hF fi_9_60 lf_X9_246 dX9_made_160 (fun x9 hF => ?_)
      refine lv_if_ne (tgt := 179) X.1 X.2.1 dX9_made_163 (by decide) (fun c10 => ?_) (fun c10 => ?_)
      · have hF := ab_pos c10 hF
        exact w_X9_made_179 X hr ih S (lv_sub hl [0, 1, 2, 3, 4] rfl) hF
      · have hF := ab_neg (fun q => q c10) hF
        refine ab_aload_n X dX9_made_166 rfl (lv_at hl 0 rfl) ?_
        refine ab_getR X S hF fi_9_49 lf_X9_152 dX9_made_167 (fun x11 hF => ?_)
        refine lv_iload X.1 X.2.1 dX9_made_170 (lv_at hl 4 rfl) ?_
        refine ab_aldD X S hF dX9_made_172 (fun x12 hF => ?_)
        obtain ⟨x13, h14, e15, hF⟩ := bnd_out hF
        refine ab_callSi X S (c_X9_isFinite l D cA sz e15) mi_X9_isFinite lm_X9_193 lt_yX9_isFinite (As := [.double x12]) (rest := [va_rf v0]) rfl ⟨by decide, by decide⟩ ⟨by decide, by decide⟩ hl.1 rfl (by simp [ab_cat, ab_cI, ab_cJ, ab_cD, ab_cF]) dX9_made_173 (fun H1 locs1 S => ?_)
        refine lv_if_ne (tgt := 183) X.1 X.2.1 dX9_made_176 (by decide) (fun c16 => ?_) (fun c16 => ?_)
        · have hF := ab_pos c16 hF
          refine lv_iconst (v := 0) X.1 X.2.1 dX9_made_183 (by decide) ?_
          exact w_X9_made_184 X hr ih S (lv_sub hl [0, 1, 2, 3, 4] rfl) hF
        · have hF := ab_neg (fun q => q c16) hF
          exact w_X9_made_179 X hr ih S (lv_sub hl [0, 1, 2, 3, 4] rfl) hF
def f_X9_made_148  (v0 : Option Nat) (v3 : UInt64) (v5 : UInt64) (v7 : Int32) (h : Hp) : Option (Int32 × Hp) :=
  f_X9_made_151 fuelN v0 v3 v5 v7 0 h
set_option maxHeartbeats 4000000 in
set_option maxRecDepth 100000 in
theorem w_X9_made_148 {p : Program} {l : Launch} {e : Env} {s : State} {m : MethodId} {args : Array Value} {below : List Frame} {meth : Method} {c : Code} {D : va_G} {cA : Nat → ClassId} {sz : Nat} {rr : Int32} {hh : Hp}  (X : ab_X p s m args meth c cX9_made 9 RX9 D cA sz) (hr : meth.sig.returnType = (some .boolean))  {H : Heap} {locs : List Loc} {ls : Array Slot} {v0 : Option Nat} {v3 : UInt64} {v5 : UInt64} {v7 : Int32} {h : Hp} (S : ab_H D cA sz h s H locs) (hl : lv_has ls 9 [(0, va_rf v0), (3, .double v3), (5, .double v5), (7, .int v7)]) (hF : f_X9_made_148 v0 v3 v5 v7 h = some (rr, hh)) : W p l e (ab_rm 7 0 0) s m args below meth c H locs 0 0 (MQ below (ab_Q D cA sz (some (.int rr)) hh) args s 0 0 (fun q => sz ≤ q)) (F0 m 148 ls []) := by
  unfold f_X9_made_148 at hF
  refine lv_iconst (v := 0) X.1 X.2.1 dX9_made_148 (by decide) ?_
  refine lv_istore (lv' := [(8, .int 0), (0, va_rf v0), (3, .double v3), (5, .double v5), (7, .int v7)]) X.1 X.2.1 dX9_made_149 hl (by decide) (by simp [ab_cat, ab_cI, ab_cJ, ab_cD, ab_cF]) (fun ls hl => ?_)
  exact w_X9_made_151 X hr  fuelN _ _ _ _ _ _ _ _ _ S (lv_sub hl [1, 2, 3, 4, 0] rfl) hF
def f_X9_made (this : Nat) (p0 : Int32) (p1 : Int32) (p2 : UInt64) (p3 : UInt64) (h : Hp) : Option (Int32 × Hp) :=
  (getR h (some this) 9 0).bind fun x1 =>
  (aldI h x1 11 p0).bind fun x2 =>
  (putZ h (some this) 9 60 0).bind fun h3 =>
  (putI h3 (some this) 9 61 0).bind fun h4 =>
  (getR h4 (some this) 9 47).bind fun x5 =>
  (getR h4 (some this) 9 52).bind fun x6 =>
  (ab_ck h4 (some this) (9, 0)).bind fun a10 =>
  bnd (f_X9_rates a10 p0 p2 x5 x6 h4) fun _ h8 =>
  if ¬ p1 = 0 then
    if ¬ p1 = 1 then
      if ¬ p1 = 2 then
        if ¬ p1 = 3 then
          if ¬ p1 = 4 then
            if ¬ p1 = 5 then
              (ab_ck h8 (some this) (9, 0)).bind fun a21 =>
              bnd (f_X9_leap a21 p0 x2 p2 p3 h8) fun _ h19 =>
              f_X9_made_148 (some this) p2 p3 x2 h19
            else
              (ab_ck h8 (some this) (9, 0)).bind fun a26 =>
              bnd (f_X9_backward a26 p0 x2 p2 p3 h8) fun _ h24 =>
              f_X9_made_148 (some this) p2 p3 x2 h24
          else
            (ab_ck h8 (some this) (9, 0)).bind fun a31 =>
            bnd (f_X9_pair a31 p0 x2 p2 p3 h8) fun _ h29 =>
            f_X9_made_148 (some this) p2 p3 x2 h29
        else
          (ab_ck h8 (some this) (9, 0)).bind fun a36 =>
          bnd (f_X9_fourth a36 p0 x2 p2 p3 h8) fun _ h34 =>
          f_X9_made_148 (some this) p2 p3 x2 h34
      else
        (ab_ck h8 (some this) (9, 0)).bind fun a41 =>
        bnd (f_X9_third a41 p0 x2 p2 p3 h8) fun _ h39 =>
        f_X9_made_148 (some this) p2 p3 x2 h39
    else
      (ab_ck h8 (some this) (9, 0)).bind fun a46 =>
      bnd (f_X9_byMiddle a46 p0 x2 p2 p3 h8) fun _ h44 =>
      f_X9_made_148 (some this) p2 p3 x2 h44
  else
    (ab_ck h8 (some this) (9, 0)).bind fun a51 =>
    bnd (f_X9_plain a51 p0 x2 p3 h8) fun _ h49 =>
    f_X9_made_148 (some this) p2 p3 x2 h49
theorem mi_X9_made : ab_MI yX9_made cX9_made 9 (some .boolean) 4 := ⟨lc_yX9_made, lz_RX9, by decide, by decide, by decide +kernel⟩
set_option maxHeartbeats 4000000 in
set_option maxRecDepth 100000 in
theorem c_X9_made (l : Launch) (D : va_G) (cA : Nat → ClassId) (sz : Nat) {this : Nat} {p0 : Int32} {p1 : Int32} {p2 : UInt64} {p3 : UInt64} {h hh : Hp} {rr : Int32} (hF : f_X9_made this p0 p1 p2 p3 h = some (rr, hh)) : ab_C l D cA sz yX9_made cX9_made 9 (some .boolean) 7 0 0 [.ref this, .int p0, .int p1, .double p2, .double p3] h (some (.int rr)) hh := by
  refine Met.ofW (cc := cX9_made) (maxL := 9) (ret := (some .boolean)) (by decide) rfl ?_
  intro p e s m args below meth c s₁ B hml hv
  obtain ⟨rfl, hT, hR⟩ := hv
  have X : ab_X p s m _ meth c cX9_made 9 RX9 D cA sz := (ab_enter B hml hT hR).1
  have S := (ab_enter B hml hT hR).2
  have hr := B.returns
  obtain ⟨ls, hls, hl⟩ := ab_entry m [.ref this, .int p0, .int p1, .double p2, .double p3] 9 (lv := [(0, .ref this), (1, .int p0), (2, .int p1), (3, .double p2), (5, .double p3)]) (by simp [lg_sl, ab_cat, ab_cI, ab_cJ, ab_cD, ab_cF, ab_cA]) (by simp [lv_args, ab_cat, ab_cI, ab_cJ, ab_cD, ab_cF, ab_cA])
  rw [hls]
  have hl : lv_has ls 9 [(0, va_rf (some this)), (1, .int p0), (2, .int p1), (3, .double p2), (5, .double p3)] := hl
  unfold f_X9_made at hF
  show W p l e (ab_rm 7 0 0) s m _ below meth c s.heap [] 0 0 _ _
  refine ab_aload_n X dX9_made_0 rfl (lv_at hl 0 rfl) ?_
  refine ab_getR X S hF fi_9_0 lf_X9_9 dX9_made_1 (fun x1 hF => ?_)
  refine lv_iload_n X.1 X.2.1 dX9_made_4 rfl (lv_at hl 1 rfl) ?_
  refine ab_aldI X S hF dX9_made_5 (fun x2 hF => ?_)
  refine lv_istore (lv' := [(7, .int x2), (0, va_rf (some this)), (1, .int p0), (2, .int p1), (3, .double p2), (5, .double p3)]) X.1 X.2.1 dX9_made_6 hl (by decide) (by simp [ab_cat, ab_cI, ab_cJ, ab_cD, ab_cF]) (fun ls hl => ?_)
  refine ab_aload_n X dX9_made_8 rfl (lv_at hl 1 rfl) ?_
  refine lv_iconst (v := 0) X.1 X.2.1 dX9_made_9 (by decide) ?_
  refine ab_putZ X S hF fi_9_60 ci_9 (Or.inl rfl) rfl lf_X9_246 dX9_made_10 (fun h3 H1 locs1 hF S => ?_)
  refine ab_aload_n X dX9_made_13 rfl (lv_at hl 1 rfl) ?_
  refine lv_iconst (v := 0) X.1 X.2.1 dX9_made_14 (by decide) ?_
  refine ab_putI X S hF fi_9_61 ci_9 (Or.inl rfl) rfl lf_X9_250 dX9_made_15 (fun h4 H1 locs1 hF S => ?_)
  refine ab_aload_n X dX9_made_18 rfl (lv_at hl 1 rfl) ?_
  refine lv_iload_n X.1 X.2.1 dX9_made_19 rfl (lv_at hl 2 rfl) ?_
  refine lv_dload_n X.1 X.2.1 dX9_made_20 rfl (lv_at hl 4 rfl) ?_
  refine ab_aload_n X dX9_made_21 rfl (lv_at hl 1 rfl) ?_
  refine ab_getR X S hF fi_9_47 lf_X9_146 dX9_made_22 (fun x5 hF => ?_)
  refine ab_aload_n X dX9_made_25 rfl (lv_at hl 1 rfl) ?_
  refine ab_getR X S hF fi_9_52 lf_X9_161 dX9_made_26 (fun x6 hF => ?_)
  obtain ⟨a10, e11, hF⟩ := bind_out hF
  obtain ⟨x7, h8, e9, hF⟩ := bnd_out hF
  refine ab_callVv X S e11 (c_X9_rates l D cA sz e9) rfl (by decide) mi_X9_rates lm_X9_254 li_yX9_rates ls_yX9_rates (As := [.int p0, .double p2, va_rf x5, va_rf x6]) (rest := []) rfl ⟨by decide, by decide⟩ ⟨by decide, by decide⟩ hl.1 rfl (by simp [ab_cat, ab_cI, ab_cJ, ab_cD, ab_cF]) dX9_made_29 (fun H1 locs1 S => ?_)
  refine lv_iload_n X.1 X.2.1 dX9_made_32 rfl (lv_at hl 3 rfl) ?_
  refine lv_if_ne (tgt := 48) X.1 X.2.1 dX9_made_33 (by decide) (fun c12 => ?_) (fun c12 => ?_)
  · have hF := ab_pos c12 hF
    refine lv_iload_n X.1 X.2.1 dX9_made_48 rfl (lv_at hl 3 rfl) ?_
    refine lv_iconst (v := 1) X.1 X.2.1 dX9_made_49 (by decide) ?_
    refine lv_icmp_ne (tgt := 66) X.1 X.2.1 dX9_made_50 (by decide) (fun c13 => ?_) (fun c13 => ?_)
    · have hF := ab_pos c13 hF
      refine lv_iload_n X.1 X.2.1 dX9_made_66 rfl (lv_at hl 3 rfl) ?_
      refine lv_iconst (v := 2) X.1 X.2.1 dX9_made_67 (by decide) ?_
      refine lv_icmp_ne (tgt := 84) X.1 X.2.1 dX9_made_68 (by decide) (fun c14 => ?_) (fun c14 => ?_)
      · have hF := ab_pos c14 hF
        refine lv_iload_n X.1 X.2.1 dX9_made_84 rfl (lv_at hl 3 rfl) ?_
        refine lv_iconst (v := 3) X.1 X.2.1 dX9_made_85 (by decide) ?_
        refine lv_icmp_ne (tgt := 102) X.1 X.2.1 dX9_made_86 (by decide) (fun c15 => ?_) (fun c15 => ?_)
        · have hF := ab_pos c15 hF
          refine lv_iload_n X.1 X.2.1 dX9_made_102 rfl (lv_at hl 3 rfl) ?_
          refine lv_iconst (v := 4) X.1 X.2.1 dX9_made_103 (by decide) ?_
          refine lv_icmp_ne (tgt := 120) X.1 X.2.1 dX9_made_104 (by decide) (fun c16 => ?_) (fun c16 => ?_)
          · have hF := ab_pos c16 hF
            refine lv_iload_n X.1 X.2.1 dX9_made_120 rfl (lv_at hl 3 rfl) ?_
            refine lv_iconst (v := 5) X.1 X.2.1 dX9_made_121 (by decide) ?_
            refine lv_icmp_ne (tgt := 138) X.1 X.2.1 dX9_made_122 (by decide) (fun c17 => ?_) (fun c17 => ?_)
            · have hF := ab_pos c17 hF
              refine ab_aload_n X dX9_made_138 rfl (lv_at hl 1 rfl) ?_
              refine lv_iload_n X.1 X.2.1 dX9_made_139 rfl (lv_at hl 2 rfl) ?_
              refine lv_iload X.1 X.2.1 dX9_made_140 (lv_at hl 0 rfl) ?_
              refine lv_dload_n X.1 X.2.1 dX9_made_142 rfl (lv_at hl 4 rfl) ?_
              refine lv_dload X.1 X.2.1 dX9_made_143 (lv_at hl 5 rfl) ?_
              obtain ⟨a21, e22, hF⟩ := bind_out hF
              obtain ⟨x18, h19, e20, hF⟩ := bnd_out hF
              refine ab_callVv X S e22 (c_X9_leap l D cA sz e20) rfl (by decide) mi_X9_leap lm_X9_278 li_yX9_leap ls_yX9_leap (As := [.int p0, .int x2, .double p2, .double p3]) (rest := []) rfl ⟨by decide, by decide⟩ ⟨by decide, by decide⟩ hl.1 rfl (by simp [ab_cat, ab_cI, ab_cJ, ab_cD, ab_cF]) dX9_made_145 (fun H1 locs1 S => ?_)
              exact w_X9_made_148 X hr  S (lv_sub hl [1, 4, 5, 0] rfl) hF
            · have hF := ab_neg (fun q => q c17) hF
              refine ab_aload_n X dX9_made_125 rfl (lv_at hl 1 rfl) ?_
              refine lv_iload_n X.1 X.2.1 dX9_made_126 rfl (lv_at hl 2 rfl) ?_
              refine lv_iload X.1 X.2.1 dX9_made_127 (lv_at hl 0 rfl) ?_
              refine lv_dload_n X.1 X.2.1 dX9_made_129 rfl (lv_at hl 4 rfl) ?_
              refine lv_dload X.1 X.2.1 dX9_made_130 (lv_at hl 5 rfl) ?_
              obtain ⟨a26, e27, hF⟩ := bind_out hF
              obtain ⟨x23, h24, e25, hF⟩ := bnd_out hF
              refine ab_callVv X S e27 (c_X9_backward l D cA sz e25) rfl (by decide) mi_X9_backward lm_X9_275 li_yX9_backward ls_yX9_backward (As := [.int p0, .int x2, .double p2, .double p3]) (rest := []) rfl ⟨by decide, by decide⟩ ⟨by decide, by decide⟩ hl.1 rfl (by simp [ab_cat, ab_cI, ab_cJ, ab_cD, ab_cF]) dX9_made_132 (fun H1 locs1 S => ?_)
              refine lv_goto (tgt := 148) X.1 X.2.1 dX9_made_135 (by decide) ?_
              exact w_X9_made_148 X hr  S (lv_sub hl [1, 4, 5, 0] rfl) hF
          · have hF := ab_neg (fun q => q c16) hF
            refine ab_aload_n X dX9_made_107 rfl (lv_at hl 1 rfl) ?_
            refine lv_iload_n X.1 X.2.1 dX9_made_108 rfl (lv_at hl 2 rfl) ?_
            refine lv_iload X.1 X.2.1 dX9_made_109 (lv_at hl 0 rfl) ?_
            refine lv_dload_n X.1 X.2.1 dX9_made_111 rfl (lv_at hl 4 rfl) ?_
            refine lv_dload X.1 X.2.1 dX9_made_112 (lv_at hl 5 rfl) ?_
            obtain ⟨a31, e32, hF⟩ := bind_out hF
            obtain ⟨x28, h29, e30, hF⟩ := bnd_out hF
            refine ab_callVv X S e32 (c_X9_pair l D cA sz e30) rfl (by decide) mi_X9_pair lm_X9_272 li_yX9_pair ls_yX9_pair (As := [.int p0, .int x2, .double p2, .double p3]) (rest := []) rfl ⟨by decide, by decide⟩ ⟨by decide, by decide⟩ hl.1 rfl (by simp [ab_cat, ab_cI, ab_cJ, ab_cD, ab_cF]) dX9_made_114 (fun H1 locs1 S => ?_)
            refine lv_goto (tgt := 148) X.1 X.2.1 dX9_made_117 (by decide) ?_
            exact w_X9_made_148 X hr  S (lv_sub hl [1, 4, 5, 0] rfl) hF
        · have hF := ab_neg (fun q => q c15) hF
          refine ab_aload_n X dX9_made_89 rfl (lv_at hl 1 rfl) ?_
          refine lv_iload_n X.1 X.2.1 dX9_made_90 rfl (lv_at hl 2 rfl) ?_
          refine lv_iload X.1 X.2.1 dX9_made_91 (lv_at hl 0 rfl) ?_
          refine lv_dload_n X.1 X.2.1 dX9_made_93 rfl (lv_at hl 4 rfl) ?_
          refine lv_dload X.1 X.2.1 dX9_made_94 (lv_at hl 5 rfl) ?_
          obtain ⟨a36, e37, hF⟩ := bind_out hF
          obtain ⟨x33, h34, e35, hF⟩ := bnd_out hF
          refine ab_callVv X S e37 (c_X9_fourth l D cA sz e35) rfl (by decide) mi_X9_fourth lm_X9_269 li_yX9_fourth ls_yX9_fourth (As := [.int p0, .int x2, .double p2, .double p3]) (rest := []) rfl ⟨by decide, by decide⟩ ⟨by decide, by decide⟩ hl.1 rfl (by simp [ab_cat, ab_cI, ab_cJ, ab_cD, ab_cF]) dX9_made_96 (fun H1 locs1 S => ?_)
          refine lv_goto (tgt := 148) X.1 X.2.1 dX9_made_99 (by decide) ?_
          exact w_X9_made_148 X hr  S (lv_sub hl [1, 4, 5, 0] rfl) hF
      · have hF := ab_neg (fun q => q c14) hF
        refine ab_aload_n X dX9_made_71 rfl (lv_at hl 1 rfl) ?_
        refine lv_iload_n X.1 X.2.1 dX9_made_72 rfl (lv_at hl 2 rfl) ?_
        refine lv_iload X.1 X.2.1 dX9_made_73 (lv_at hl 0 rfl) ?_
        refine lv_dload_n X.1 X.2.1 dX9_made_75 rfl (lv_at hl 4 rfl) ?_
        refine lv_dload X.1 X.2.1 dX9_made_76 (lv_at hl 5 rfl) ?_
        obtain ⟨a41, e42, hF⟩ := bind_out hF
        obtain ⟨x38, h39, e40, hF⟩ := bnd_out hF
        refine ab_callVv X S e42 (c_X9_third l D cA sz e40) rfl (by decide) mi_X9_third lm_X9_266 li_yX9_third ls_yX9_third (As := [.int p0, .int x2, .double p2, .double p3]) (rest := []) rfl ⟨by decide, by decide⟩ ⟨by decide, by decide⟩ hl.1 rfl (by simp [ab_cat, ab_cI, ab_cJ, ab_cD, ab_cF]) dX9_made_78 (fun H1 locs1 S => ?_)
        refine lv_goto (tgt := 148) X.1 X.2.1 dX9_made_81 (by decide) ?_
        exact w_X9_made_148 X hr  S (lv_sub hl [1, 4, 5, 0] rfl) hF
    · have hF := ab_neg (fun q => q c13) hF
      refine ab_aload_n X dX9_made_53 rfl (lv_at hl 1 rfl) ?_
      refine lv_iload_n X.1 X.2.1 dX9_made_54 rfl (lv_at hl 2 rfl) ?_
      refine lv_iload X.1 X.2.1 dX9_made_55 (lv_at hl 0 rfl) ?_
      refine lv_dload_n X.1 X.2.1 dX9_made_57 rfl (lv_at hl 4 rfl) ?_
      refine lv_dload X.1 X.2.1 dX9_made_58 (lv_at hl 5 rfl) ?_
      obtain ⟨a46, e47, hF⟩ := bind_out hF
      obtain ⟨x43, h44, e45, hF⟩ := bnd_out hF
      refine ab_callVv X S e47 (c_X9_byMiddle l D cA sz e45) rfl (by decide) mi_X9_byMiddle lm_X9_262 li_yX9_byMiddle ls_yX9_byMiddle (As := [.int p0, .int x2, .double p2, .double p3]) (rest := []) rfl ⟨by decide, by decide⟩ ⟨by decide, by decide⟩ hl.1 rfl (by simp [ab_cat, ab_cI, ab_cJ, ab_cD, ab_cF]) dX9_made_60 (fun H1 locs1 S => ?_)
      refine lv_goto (tgt := 148) X.1 X.2.1 dX9_made_63 (by decide) ?_
      exact w_X9_made_148 X hr  S (lv_sub hl [1, 4, 5, 0] rfl) hF
  · have hF := ab_neg (fun q => q c12) hF
    refine ab_aload_n X dX9_made_36 rfl (lv_at hl 1 rfl) ?_
    refine lv_iload_n X.1 X.2.1 dX9_made_37 rfl (lv_at hl 2 rfl) ?_
    refine lv_iload X.1 X.2.1 dX9_made_38 (lv_at hl 0 rfl) ?_
    refine lv_dload X.1 X.2.1 dX9_made_40 (lv_at hl 5 rfl) ?_
    obtain ⟨a51, e52, hF⟩ := bind_out hF
    obtain ⟨x48, h49, e50, hF⟩ := bnd_out hF
    refine ab_callVv X S e52 (c_X9_plain l D cA sz e50) rfl (by decide) mi_X9_plain lm_X9_258 li_yX9_plain ls_yX9_plain (As := [.int p0, .int x2, .double p3]) (rest := []) rfl ⟨by decide, by decide⟩ ⟨by decide, by decide⟩ hl.1 rfl (by simp [ab_cat, ab_cI, ab_cJ, ab_cD, ab_cF]) dX9_made_42 (fun H1 locs1 S => ?_)
    refine lv_goto (tgt := 148) X.1 X.2.1 dX9_made_45 (by decide) ?_
    exact w_X9_made_148 X hr  S (lv_sub hl [1, 4, 5, 0] rfl) hF
def f_X9_looksAtEvents_122 (k_26 : Option Nat → Int32 → Int32 → Hp → Option (Unit × Hp)) (v0 : Option Nat) (v1 : Int32) (u0 : Int32) (h : Hp) : Option (Unit × Hp) :=
  k_26 v0 v1 u0 h
set_option maxHeartbeats 4000000 in
set_option maxRecDepth 100000 in
theorem w_X9_looksAtEvents_122 {p : Program} {l : Launch} {e : Env} {s : State} {m : MethodId} {args : Array Value} {below : List Frame} {meth : Method} {c : Code} {D : va_G} {cA : Nat → ClassId} {sz : Nat}  {hh : Hp} {k_26 : Option Nat → Int32 → Int32 → Hp → Option (Unit × Hp)} (X : ab_X p s m args meth c cX9_looksAtEvents 5 RX9 D cA sz) (hr : meth.sig.returnType = none) (hk_26 : ∀ (v0 : Option Nat) (v1 : Int32) (v2 : Int32) (h : Hp) (H : Heap) (locs : List Loc) (ls : Array Slot), ab_H D cA sz h s H locs → lv_has ls 5 [(0, va_rf v0), (1, .int v1), (2, .int v2)] → k_26 v0 v1 v2 h = some ((), hh) → W p l e (ab_rm 7 0 0) s m args below meth c H locs 0 0 (MQ below (ab_Q D cA sz none hh) args s 0 0 (fun q => sz ≤ q)) (F0 m 26 ls [])) {H : Heap} {locs : List Loc} {ls : Array Slot} {v0 : Option Nat} {v1 : Int32} {u0 : Int32} {h : Hp} (S : ab_H D cA sz h s H locs) (hl : lv_has ls 5 [(0, va_rf v0), (1, .int v1)]) (hF : f_X9_looksAtEvents_122 k_26 v0 v1 u0 h = some ((), hh)) : W p l e (ab_rm 7 0 0) s m args below meth c H locs 0 0 (MQ below (ab_Q D cA sz none hh) args s 0 0 (fun q => sz ≤ q)) (F0 m 122 ls [.int u0]) := by
  unfold f_X9_looksAtEvents_122 at hF
  refine lv_istore_n (i := 2) (lv' := [(2, .int u0), (0, va_rf v0), (1, .int v1)]) X.1 X.2.1 dX9_looksAtEvents_122 rfl hl (by decide) (by simp [ab_cat, ab_cI, ab_cJ, ab_cD, ab_cF]) (fun ls hl => ?_)
  refine lv_goto (tgt := 26) X.1 X.2.1 dX9_looksAtEvents_123 (by decide) ?_
  exact hk_26 _ _ _ _ _ _ _ S (lv_sub hl [1, 2, 0] rfl) hF
def f_X9_looksAtEvents_80 (k_26 : Option Nat → Int32 → Int32 → Hp → Option (Unit × Hp)) (k_35 : Option Nat → Int32 → Int32 → Int32 → Hp → Option (Unit × Hp)) (v0 : Option Nat) (v1 : Int32) (v3 : Int32) (v4 : Int32) (h : Hp) : Option (Unit × Hp) :=
  k_35 v0 v1 v3 (v4 + 1) h
set_option maxHeartbeats 4000000 in
set_option maxRecDepth 100000 in
theorem w_X9_looksAtEvents_80 {p : Program} {l : Launch} {e : Env} {s : State} {m : MethodId} {args : Array Value} {below : List Frame} {meth : Method} {c : Code} {D : va_G} {cA : Nat → ClassId} {sz : Nat}  {hh : Hp} {k_26 : Option Nat → Int32 → Int32 → Hp → Option (Unit × Hp)} {k_35 : Option Nat → Int32 → Int32 → Int32 → Hp → Option (Unit × Hp)} (X : ab_X p s m args meth c cX9_looksAtEvents 5 RX9 D cA sz) (hr : meth.sig.returnType = none) (hk_26 : ∀ (v0 : Option Nat) (v1 : Int32) (v2 : Int32) (h : Hp) (H : Heap) (locs : List Loc) (ls : Array Slot), ab_H D cA sz h s H locs → lv_has ls 5 [(0, va_rf v0), (1, .int v1), (2, .int v2)] → k_26 v0 v1 v2 h = some ((), hh) → W p l e (ab_rm 7 0 0) s m args below meth c H locs 0 0 (MQ below (ab_Q D cA sz none hh) args s 0 0 (fun q => sz ≤ q)) (F0 m 26 ls [])) (hk_35 : ∀ (v0 : Option Nat) (v1 : Int32) (v3 : Int32) (v4 : Int32) (h : Hp) (H : Heap) (locs : List Loc) (ls : Array Slot), ab_H D cA sz h s H locs → lv_has ls 5 [(0, va_rf v0), (1, .int v1), (3, .int v3), (4, .int v4)] → k_35 v0 v1 v3 v4 h = some ((), hh) → W p l e (ab_rm 7 0 0) s m args below meth c H locs 0 0 (MQ below (ab_Q D cA sz none hh) args s 0 0 (fun q => sz ≤ q)) (F0 m 35 ls [])) {H : Heap} {locs : List Loc} {ls : Array Slot} {v0 : Option Nat} {v1 : Int32} {v3 : Int32} {v4 : Int32} {h : Hp} (S : ab_H D cA sz h s H locs) (hl : lv_has ls 5 [(0, va_rf v0), (1, .int v1), (3, .int v3), (4, .int v4)]) (hF : f_X9_looksAtEvents_80 k_26 k_35 v0 v1 v3 v4 h = some ((), hh)) : W p l e (ab_rm 7 0 0) s m args below meth c H locs 0 0 (MQ below (ab_Q D cA sz none hh) args s 0 0 (fun q => sz ≤ q)) (F0 m 80 ls []) := by
  unfold f_X9_looksAtEvents_80 at hF
  refine lv_iinc (v := v4 + 1) (lv' := [(4, .int (v4 + 1)), (0, va_rf v0), (1, .int v1), (3, .int v3)]) X.1 X.2.1 dX9_looksAtEvents_80 hl (k := 3) rfl (by rfl) (by decide) (by simp [ab_cat, ab_cI, ab_cJ, ab_cD, ab_cF]) (fun ls hl => ?_)
  refine lv_goto (tgt := 35) X.1 X.2.1 dX9_looksAtEvents_83 (by decide) ?_
  exact hk_35 _ _ _ _ _ _ _ _ S (lv_sub hl [1, 2, 3, 0] rfl) hF
def f_X9_looksAtEvents_77 (k_26 : Option Nat → Int32 → Int32 → Hp → Option (Unit × Hp)) (k_35 : Option Nat → Int32 → Int32 → Int32 → Hp → Option (Unit × Hp)) (v0 : Option Nat) (v1 : Int32) (v4 : Int32) (h : Hp) : Option (Unit × Hp) :=
  f_X9_looksAtEvents_80 k_26 k_35 v0 v1 v4 v4 h
set_option maxHeartbeats 4000000 in
set_option maxRecDepth 100000 in
theorem w_X9_looksAtEvents_77 {p : Program} {l : Launch} {e : Env} {s : State} {m : MethodId} {args : Array Value} {below : List Frame} {meth : Method} {c : Code} {D : va_G} {cA : Nat → ClassId} {sz : Nat}  {hh : Hp} {k_26 : Option Nat → Int32 → Int32 → Hp → Option (Unit × Hp)} {k_35 : Option Nat → Int32 → Int32 → Int32 → Hp → Option (Unit × Hp)} (X : ab_X p s m args meth c cX9_looksAtEvents 5 RX9 D cA sz) (hr : meth.sig.returnType = none) (hk_26 : ∀ (v0 : Option Nat) (v1 : Int32) (v2 : Int32) (h : Hp) (H : Heap) (locs : List Loc) (ls : Array Slot), ab_H D cA sz h s H locs → lv_has ls 5 [(0, va_rf v0), (1, .int v1), (2, .int v2)] → k_26 v0 v1 v2 h = some ((), hh) → W p l e (ab_rm 7 0 0) s m args below meth c H locs 0 0 (MQ below (ab_Q D cA sz none hh) args s 0 0 (fun q => sz ≤ q)) (F0 m 26 ls [])) (hk_35 : ∀ (v0 : Option Nat) (v1 : Int32) (v3 : Int32) (v4 : Int32) (h : Hp) (H : Heap) (locs : List Loc) (ls : Array Slot), ab_H D cA sz h s H locs → lv_has ls 5 [(0, va_rf v0), (1, .int v1), (3, .int v3), (4, .int v4)] → k_35 v0 v1 v3 v4 h = some ((), hh) → W p l e (ab_rm 7 0 0) s m args below meth c H locs 0 0 (MQ below (ab_Q D cA sz none hh) args s 0 0 (fun q => sz ≤ q)) (F0 m 35 ls [])) {H : Heap} {locs : List Loc} {ls : Array Slot} {v0 : Option Nat} {v1 : Int32} {v4 : Int32} {h : Hp} (S : ab_H D cA sz h s H locs) (hl : lv_has ls 5 [(0, va_rf v0), (1, .int v1), (4, .int v4)]) (hF : f_X9_looksAtEvents_77 k_26 k_35 v0 v1 v4 h = some ((), hh)) : W p l e (ab_rm 7 0 0) s m args below meth c H locs 0 0 (MQ below (ab_Q D cA sz none hh) args s 0 0 (fun q => sz ≤ q)) (F0 m 77 ls []) := by
  unfold f_X9_looksAtEvents_77 at hF
  refine lv_iload X.1 X.2.1 dX9_looksAtEvents_77 (lv_at hl 2 rfl) ?_
  refine lv_istore_n (i := 3) (lv' := [(3, .int v4), (0, va_rf v0), (1, .int v1), (4, .int v4)]) X.1 X.2.1 dX9_looksAtEvents_79 rfl hl (by decide) (by simp [ab_cat, ab_cI, ab_cJ, ab_cD, ab_cF]) (fun ls hl => ?_)
  exact w_X9_looksAtEvents_80 X hr hk_26 hk_35 S (lv_sub hl [1, 2, 0, 3] rfl) hF
def f_X9_looksAtEvents_35 (k_26 : Option Nat → Int32 → Int32 → Hp → Option (Unit × Hp)) : Nat → Option Nat → Int32 → Int32 → Int32 → Hp → Option (Unit × Hp)
  | 0, _, _, _, _, _ => none
  | n + 1, v0, v1, v3, v4, h => (getR h v0 9 17).bind fun x1 =>
    (aldI h x1 11 v1).bind fun x2 =>
    if x2 ≤ v4 then
      if 0 ≤ v3 then
        (getR h v0 9 59).bind fun x5 =>
        (astZ h x5 v3 0).bind fun h6 =>
        (ab_ck h6 v0 (9, 0)).bind fun a10 =>
        bnd (f_X9_fires a10 v1 v3 h6) fun _ h8 =>
        (getR h8 v0 9 33).bind fun x12 =>
        (aldI h8 x12 11 ((4 * v1) + v3)).bind fun x13 =>
        if ¬ x13 = 0 then
          f_X9_looksAtEvents_122 k_26 v0 v1 0 h8
        else
          f_X9_looksAtEvents_122 k_26 v0 v1 1 h8
      else
        some ((), h)
    else
      (getR h v0 9 59).bind fun x15 =>
      (aldI h x15 12 v4).bind fun x16 =>
      if x16 = 0 then
        f_X9_looksAtEvents_80 k_26 (f_X9_looksAtEvents_35 k_26 n) v0 v1 v3 v4 h
      else
        if v3 < 0 then
          f_X9_looksAtEvents_77 k_26 (f_X9_looksAtEvents_35 k_26 n) v0 v1 v4 h
        else
          (getR h v0 9 58).bind fun x19 =>
          (aldD h x19 v4).bind fun x20 =>
          (getR h v0 9 58).bind fun x21 =>
          (aldD h x21 v3).bind fun x22 =>
          if 0 ≤ (Op.cmpValue (FP.dcmp x20 x22) CmpOp.g) then
            f_X9_looksAtEvents_80 k_26 (f_X9_looksAtEvents_35 k_26 n) v0 v1 v3 v4 h
          else
            f_X9_looksAtEvents_77 k_26 (f_X9_looksAtEvents_35 k_26 n) v0 v1 v4 h
set_option maxHeartbeats 4000000 in
set_option maxRecDepth 100000 in
theorem w_X9_looksAtEvents_35 {p : Program} {l : Launch} {e : Env} {s : State} {m : MethodId} {args : Array Value} {below : List Frame} {meth : Method} {c : Code} {D : va_G} {cA : Nat → ClassId} {sz : Nat}  {hh : Hp} {k_26 : Option Nat → Int32 → Int32 → Hp → Option (Unit × Hp)} (X : ab_X p s m args meth c cX9_looksAtEvents 5 RX9 D cA sz) (hr : meth.sig.returnType = none) (hk_26 : ∀ (v0 : Option Nat) (v1 : Int32) (v2 : Int32) (h : Hp) (H : Heap) (locs : List Loc) (ls : Array Slot), ab_H D cA sz h s H locs → lv_has ls 5 [(0, va_rf v0), (1, .int v1), (2, .int v2)] → k_26 v0 v1 v2 h = some ((), hh) → W p l e (ab_rm 7 0 0) s m args below meth c H locs 0 0 (MQ below (ab_Q D cA sz none hh) args s 0 0 (fun q => sz ≤ q)) (F0 m 26 ls [])) (n : Nat) : ∀ (v0 : Option Nat) (v1 : Int32) (v3 : Int32) (v4 : Int32) (h : Hp) (H : Heap) (locs : List Loc) (ls : Array Slot), ab_H D cA sz h s H locs → lv_has ls 5 [(0, va_rf v0), (1, .int v1), (3, .int v3), (4, .int v4)] → f_X9_looksAtEvents_35 k_26 n v0 v1 v3 v4 h = some ((), hh) → W p l e (ab_rm 7 0 0) s m args below meth c H locs 0 0 (MQ below (ab_Q D cA sz none hh) args s 0 0 (fun q => sz ≤ q)) (F0 m 35 ls []) := by
  induction n with
  | zero => intro v0 v1 v3 v4 h H locs ls S hl hF; cases hF
  | succ n ih =>
    intro v0 v1 v3 v4 h H locs ls S hl hF
    rw [f_X9_looksAtEvents_35] at hF
    refine lv_iload X.1 X.2.1 dX9_looksAtEvents_35 (lv_at hl 3 rfl) ?_
    refine ab_aload_n X dX9_looksAtEvents_37 rfl (lv_at hl 0 rfl) ?_
    refine ab_getR X S hF fi_9_17 lf_X9_58 dX9_looksAtEvents_38 (fun x1 hF => ?_)
    refine lv_iload_n X.1 X.2.1 dX9_looksAtEvents_41 rfl (lv_at hl 1 rfl) ?_
    refine ab_aldI X S hF dX9_looksAtEvents_42 (fun x2 hF => ?_)
    refine lv_icmp_ge (tgt := 86) X.1 X.2.1 dX9_looksAtEvents_43 (by decide) (fun c3 => ?_) (fun c3 => ?_)
    · have hF := ab_pos c3 hF
      refine lv_iload_n X.1 X.2.1 dX9_looksAtEvents_86 rfl (lv_at hl 2 rfl) ?_
      refine lv_if_ge (tgt := 91) X.1 X.2.1 dX9_looksAtEvents_87 (by decide) (fun c4 => ?_) (fun c4 => ?_)
      · have hF := ab_pos c4 hF
        refine ab_aload_n X dX9_looksAtEvents_91 rfl (lv_at hl 0 rfl) ?_
        refine ab_getR X S hF fi_9_59 lf_X9_182 dX9_looksAtEvents_92 (fun x5 hF => ?_)
        refine lv_iload_n X.1 X.2.1 dX9_looksAtEvents_95 rfl (lv_at hl 2 rfl) ?_
        refine lv_iconst (v := 0) X.1 X.2.1 dX9_looksAtEvents_96 (by decide) ?_
        refine ab_astZ X S hF dX9_looksAtEvents_97 (fun h6 H1 locs1 hF S => ?_)
        refine ab_aload_n X dX9_looksAtEvents_98 rfl (lv_at hl 0 rfl) ?_
        refine lv_iload_n X.1 X.2.1 dX9_looksAtEvents_99 rfl (lv_at hl 1 rfl) ?_
        refine lv_iload_n X.1 X.2.1 dX9_looksAtEvents_100 rfl (lv_at hl 2 rfl) ?_
        obtain ⟨a10, e11, hF⟩ := bind_out hF
        obtain ⟨x7, h8, e9, hF⟩ := bnd_out hF
        refine ab_callVv X S e11 (c_X9_fires l D cA sz e9) rfl (by decide) mi_X9_fires lm_X9_340 li_yX9_fires ls_yX9_fires (As := [.int v1, .int v3]) (rest := []) rfl ⟨by decide, by decide⟩ ⟨by decide, by decide⟩ hl.1 rfl (by simp [ab_cat, ab_cI, ab_cJ, ab_cD, ab_cF]) dX9_looksAtEvents_101 (fun H1 locs1 S => ?_)
        refine ab_aload_n X dX9_looksAtEvents_104 rfl (lv_at hl 0 rfl) ?_
        refine ab_getR X S hF fi_9_33 lf_X9_107 dX9_looksAtEvents_105 (fun x12 hF => ?_)
        refine lv_iconst (v := 4) X.1 X.2.1 dX9_looksAtEvents_108 (by decide) ?_
        refine lv_iload_n X.1 X.2.1 dX9_looksAtEvents_109 rfl (lv_at hl 1 rfl) ?_
        refine lv_imul X.1 X.2.1 dX9_looksAtEvents_110 ?_
        refine lv_iload_n X.1 X.2.1 dX9_looksAtEvents_111 rfl (lv_at hl 2 rfl) ?_
        refine lv_iadd X.1 X.2.1 dX9_looksAtEvents_112 ?_
        refine ab_aldI X S hF dX9_looksAtEvents_113 (fun x13 hF => ?_)
        refine lv_if_ne (tgt := 121) X.1 X.2.1 dX9_looksAtEvents_114 (by decide) (fun c14 => ?_) (fun c14 => ?_)
        · have hF := ab_pos c14 hF
          refine lv_iconst (v := 0) X.1 X.2.1 dX9_looksAtEvents_121 (by decide) ?_
          exact w_X9_looksAtEvents_122 X hr hk_26 S (lv_sub hl [0, 1] rfl) hF
        · have hF := ab_neg (fun q => q c14) hF
          refine lv_iconst (v := 1) X.1 X.2.1 dX9_looksAtEvents_117 (by decide) ?_
          refine lv_goto (tgt := 122) X.1 X.2.1 dX9_looksAtEvents_118 (by decide) ?_
          exact w_X9_looksAtEvents_122 X hr hk_26 S (lv_sub hl [0, 1] rfl) hF
      · have hF := ab_neg c4 hF
        exact ab_vret X S hr hF dX9_looksAtEvents_90
    · have hF := ab_neg c3 hF
      refine ab_aload_n X dX9_looksAtEvents_46 rfl (lv_at hl 0 rfl) ?_
      refine ab_getR X S hF fi_9_59 lf_X9_182 dX9_looksAtEvents_47 (fun x15 hF => ?_)
      refine lv_iload X.1 X.2.1 dX9_looksAtEvents_50 (lv_at hl 3 rfl) ?_
      refine ab_aldZ X S hF dX9_looksAtEvents_52 (fun x16 hF => ?_)
      refine lv_if_eq (tgt := 80) X.1 X.2.1 dX9_looksAtEvents_53 (by decide) (fun c17 => ?_) (fun c17 => ?_)
      · have hF := ab_pos c17 hF
        exact w_X9_looksAtEvents_80 X hr hk_26 ih S (lv_sub hl [0, 1, 2, 3] rfl) hF
      · have hF := ab_neg c17 hF
        refine lv_iload_n X.1 X.2.1 dX9_looksAtEvents_56 rfl (lv_at hl 2 rfl) ?_
        refine lv_if_lt (tgt := 77) X.1 X.2.1 dX9_looksAtEvents_57 (by decide) (fun c18 => ?_) (fun c18 => ?_)
        · have hF := ab_pos c18 hF
          exact w_X9_looksAtEvents_77 X hr hk_26 ih S (lv_sub hl [0, 1, 3] rfl) hF
        · have hF := ab_neg c18 hF
          refine ab_aload_n X dX9_looksAtEvents_60 rfl (lv_at hl 0 rfl) ?_
          refine ab_getR X S hF fi_9_58 lf_X9_179 dX9_looksAtEvents_61 (fun x19 hF => ?_)
          refine lv_iload X.1 X.2.1 dX9_looksAtEvents_64 (lv_at hl 3 rfl) ?_
          refine ab_aldD X S hF dX9_looksAtEvents_66 (fun x20 hF => ?_)
          refine ab_aload_n X dX9_looksAtEvents_67 rfl (lv_at hl 0 rfl) ?_
          refine ab_getR X S hF fi_9_58 lf_X9_179 dX9_looksAtEvents_68 (fun x21 hF => ?_)
          refine lv_iload_n X.1 X.2.1 dX9_looksAtEvents_71 rfl (lv_at hl 2 rfl) ?_
          refine ab_aldD X S hF dX9_looksAtEvents_72 (fun x22 hF => ?_)
          refine lv_dcmp X.1 X.2.1 dX9_looksAtEvents_73 ?_
          refine lv_if_ge (tgt := 80) X.1 X.2.1 dX9_looksAtEvents_74 (by decide) (fun c23 => ?_) (fun c23 => ?_)
          · have hF := ab_pos c23 hF
            exact w_X9_looksAtEvents_80 X hr hk_26 ih S (lv_sub hl [0, 1, 2, 3] rfl) hF
          · have hF := ab_neg c23 hF
            exact w_X9_looksAtEvents_77 X hr hk_26 ih S (lv_sub hl [0, 1, 3] rfl) hF
def f_X9_looksAtEvents_26  : Nat → Option Nat → Int32 → Int32 → Hp → Option (Unit × Hp)
  | 0, _, _, _, _ => none
  | n + 1, v0, v1, v2, h => if v2 = 0 then
      some ((), h)
    else
      f_X9_looksAtEvents_35 (f_X9_looksAtEvents_26 n) fuelN v0 v1 (-1) 0 h
set_option maxHeartbeats 4000000 in
set_option maxRecDepth 100000 in
theorem w_X9_looksAtEvents_26 {p : Program} {l : Launch} {e : Env} {s : State} {m : MethodId} {args : Array Value} {below : List Frame} {meth : Method} {c : Code} {D : va_G} {cA : Nat → ClassId} {sz : Nat}  {hh : Hp}  (X : ab_X p s m args meth c cX9_looksAtEvents 5 RX9 D cA sz) (hr : meth.sig.returnType = none)  (n : Nat) : ∀ (v0 : Option Nat) (v1 : Int32) (v2 : Int32) (h : Hp) (H : Heap) (locs : List Loc) (ls : Array Slot), ab_H D cA sz h s H locs → lv_has ls 5 [(0, va_rf v0), (1, .int v1), (2, .int v2)] → f_X9_looksAtEvents_26 n v0 v1 v2 h = some ((), hh) → W p l e (ab_rm 7 0 0) s m args below meth c H locs 0 0 (MQ below (ab_Q D cA sz none hh) args s 0 0 (fun q => sz ≤ q)) (F0 m 26 ls []) := by
  induction n with
  | zero => intro v0 v1 v2 h H locs ls S hl hF; cases hF
  | succ n ih =>
    intro v0 v1 v2 h H locs ls S hl hF
    rw [f_X9_looksAtEvents_26] at hF
    refine lv_iload_n X.1 X.2.1 dX9_looksAtEvents_26 rfl (lv_at hl 2 rfl) ?_
    refine lv_if_eq (tgt := 126) X.1 X.2.1 dX9_looksAtEvents_27 (by decide) (fun c1 => ?_) (fun c1 => ?_)
    · have hF := ab_pos c1 hF
      exact ab_vret X S hr hF dX9_looksAtEvents_126
    · have hF := ab_neg c1 hF
      refine lv_iconst (v := (-1)) X.1 X.2.1 dX9_looksAtEvents_30 (by decide) ?_
      refine lv_istore_n (i := 3) (lv' := [(3, .int (-1)), (0, va_rf v0), (1, .int v1), (2, .int v2)]) X.1 X.2.1 dX9_looksAtEvents_31 rfl hl (by decide) (by simp [ab_cat, ab_cI, ab_cJ, ab_cD, ab_cF]) (fun ls hl => ?_)
      refine lv_iconst (v := 0) X.1 X.2.1 dX9_looksAtEvents_32 (by decide) ?_
      refine lv_istore (lv' := [(4, .int 0), (3, .int (-1)), (0, va_rf v0), (1, .int v1), (2, .int v2)]) X.1 X.2.1 dX9_looksAtEvents_33 hl (by decide) (by simp [ab_cat, ab_cI, ab_cJ, ab_cD, ab_cF]) (fun ls hl => ?_)
      exact w_X9_looksAtEvents_35 X hr ih fuelN _ _ _ _ _ _ _ _ S (lv_sub hl [2, 3, 1, 0] rfl) hF
def f_X9_looksAtEvents_2  : Nat → Option Nat → Int32 → Int32 → Hp → Option (Unit × Hp)
  | 0, _, _, _, _ => none
  | n + 1, v0, v1, v2, h => (getR h v0 9 17).bind fun x1 =>
    (aldI h x1 11 v1).bind fun x2 =>
    if x2 ≤ v2 then
      f_X9_looksAtEvents_26 fuelN v0 v1 1 h
    else
      (ab_ck h v0 (9, 0)).bind fun a7 =>
      bnd (f_X9_looksAt a7 v1 v2 h) fun _ h5 =>
      f_X9_looksAtEvents_2 n v0 v1 (v2 + 1) h5
set_option maxHeartbeats 4000000 in
set_option maxRecDepth 100000 in
theorem w_X9_looksAtEvents_2 {p : Program} {l : Launch} {e : Env} {s : State} {m : MethodId} {args : Array Value} {below : List Frame} {meth : Method} {c : Code} {D : va_G} {cA : Nat → ClassId} {sz : Nat}  {hh : Hp}  (X : ab_X p s m args meth c cX9_looksAtEvents 5 RX9 D cA sz) (hr : meth.sig.returnType = none)  (n : Nat) : ∀ (v0 : Option Nat) (v1 : Int32) (v2 : Int32) (h : Hp) (H : Heap) (locs : List Loc) (ls : Array Slot), ab_H D cA sz h s H locs → lv_has ls 5 [(0, va_rf v0), (1, .int v1), (2, .int v2)] → f_X9_looksAtEvents_2 n v0 v1 v2 h = some ((), hh) → W p l e (ab_rm 7 0 0) s m args below meth c H locs 0 0 (MQ below (ab_Q D cA sz none hh) args s 0 0 (fun q => sz ≤ q)) (F0 m 2 ls []) := by
  induction n with
  | zero => intro v0 v1 v2 h H locs ls S hl hF; cases hF
  | succ n ih =>
    intro v0 v1 v2 h H locs ls S hl hF
    rw [f_X9_looksAtEvents_2] at hF
    refine lv_iload_n X.1 X.2.1 dX9_looksAtEvents_2 rfl (lv_at hl 2 rfl) ?_
    refine ab_aload_n X dX9_looksAtEvents_3 rfl (lv_at hl 0 rfl) ?_
    refine ab_getR X S hF fi_9_17 lf_X9_58 dX9_looksAtEvents_4 (fun x1 hF => ?_)
    refine lv_iload_n X.1 X.2.1 dX9_looksAtEvents_7 rfl (lv_at hl 1 rfl) ?_
    refine ab_aldI X S hF dX9_looksAtEvents_8 (fun x2 hF => ?_)
    refine lv_icmp_ge (tgt := 24) X.1 X.2.1 dX9_looksAtEvents_9 (by decide) (fun c3 => ?_) (fun c3 => ?_)
    · have hF := ab_pos c3 hF
      refine lv_iconst (v := 1) X.1 X.2.1 dX9_looksAtEvents_24 (by decide) ?_
      refine lv_istore_n (i := 2) (lv' := [(2, .int 1), (0, va_rf v0), (1, .int v1)]) X.1 X.2.1 dX9_looksAtEvents_25 rfl hl (by decide) (by simp [ab_cat, ab_cI, ab_cJ, ab_cD, ab_cF]) (fun ls hl => ?_)
      exact w_X9_looksAtEvents_26 X hr  fuelN _ _ _ _ _ _ _ S (lv_sub hl [1, 2, 0] rfl) hF
    · have hF := ab_neg c3 hF
      refine ab_aload_n X dX9_looksAtEvents_12 rfl (lv_at hl 0 rfl) ?_
      refine lv_iload_n X.1 X.2.1 dX9_looksAtEvents_13 rfl (lv_at hl 1 rfl) ?_
      refine lv_iload_n X.1 X.2.1 dX9_looksAtEvents_14 rfl (lv_at hl 2 rfl) ?_
      obtain ⟨a7, e8, hF⟩ := bind_out hF
      obtain ⟨x4, h5, e6, hF⟩ := bnd_out hF
      refine ab_callVv X S e8 (c_X9_looksAt l D cA sz e6) rfl (by decide) mi_X9_looksAt lm_X9_336 li_yX9_looksAt ls_yX9_looksAt (As := [.int v1, .int v2]) (rest := []) rfl ⟨by decide, by decide⟩ ⟨by decide, by decide⟩ hl.1 rfl (by simp [ab_cat, ab_cI, ab_cJ, ab_cD, ab_cF]) dX9_looksAtEvents_15 (fun H1 locs1 S => ?_)
      refine lv_iinc (v := v2 + 1) (lv' := [(2, .int (v2 + 1)), (0, va_rf v0), (1, .int v1)]) X.1 X.2.1 dX9_looksAtEvents_18 hl (k := 2) rfl (by rfl) (by decide) (by simp [ab_cat, ab_cI, ab_cJ, ab_cD, ab_cF]) (fun ls hl => ?_)
      refine lv_goto (tgt := 2) X.1 X.2.1 dX9_looksAtEvents_21 (by decide) ?_
      exact ih _ _ _ _ _ _ _ S (lv_sub hl [1, 2, 0] rfl) hF
def f_X9_looksAtEvents (this : Nat) (p0 : Int32) (h : Hp) : Option (Unit × Hp) :=
  f_X9_looksAtEvents_2 fuelN (some this) p0 0 h
theorem mi_X9_looksAtEvents : ab_MI yX9_looksAtEvents cX9_looksAtEvents 5 none 1 := ⟨lc_yX9_looksAtEvents, lz_RX9, by decide, by decide, by decide +kernel⟩
set_option maxHeartbeats 4000000 in
set_option maxRecDepth 100000 in
theorem c_X9_looksAtEvents (l : Launch) (D : va_G) (cA : Nat → ClassId) (sz : Nat) {this : Nat} {p0 : Int32} {h hh : Hp}  (hF : f_X9_looksAtEvents this p0 h = some ((), hh)) : ab_C l D cA sz yX9_looksAtEvents cX9_looksAtEvents 5 none 7 0 0 [.ref this, .int p0] h none hh := by
  refine Met.ofW (cc := cX9_looksAtEvents) (maxL := 5) (ret := none) (by decide) rfl ?_
  intro p e s m args below meth c s₁ B hml hv
  obtain ⟨rfl, hT, hR⟩ := hv
  have X : ab_X p s m _ meth c cX9_looksAtEvents 5 RX9 D cA sz := (ab_enter B hml hT hR).1
  have S := (ab_enter B hml hT hR).2
  have hr := B.returns
  obtain ⟨ls, hls, hl⟩ := ab_entry m [.ref this, .int p0] 5 (lv := [(0, .ref this), (1, .int p0)]) (by simp [lg_sl, ab_cat, ab_cI, ab_cJ, ab_cD, ab_cF, ab_cA]) (by simp [lv_args, ab_cat, ab_cI, ab_cJ, ab_cD, ab_cF, ab_cA])
  rw [hls]
  have hl : lv_has ls 5 [(0, va_rf (some this)), (1, .int p0)] := hl
  unfold f_X9_looksAtEvents at hF
  show W p l e (ab_rm 7 0 0) s m _ below meth c s.heap [] 0 0 _ _
  refine lv_iconst (v := 0) X.1 X.2.1 dX9_looksAtEvents_0 (by decide) ?_
  refine lv_istore_n (i := 2) (lv' := [(2, .int 0), (0, va_rf (some this)), (1, .int p0)]) X.1 X.2.1 dX9_looksAtEvents_1 rfl hl (by decide) (by simp [ab_cat, ab_cI, ab_cJ, ab_cD, ab_cF]) (fun ls hl => ?_)
  exact w_X9_looksAtEvents_2 X hr  fuelN _ _ _ _ _ _ _ S (lv_sub hl [1, 2, 0] rfl) hF
def f_X9_state_49  (u0 : Int64) (h : Hp) : Option (Int64 × Hp) :=
  some (u0, h)
set_option maxHeartbeats 4000000 in
set_option maxRecDepth 100000 in
theorem w_X9_state_49 {p : Program} {l : Launch} {e : Env} {s : State} {m : MethodId} {args : Array Value} {below : List Frame} {meth : Method} {c : Code} {D : va_G} {cA : Nat → ClassId} {sz : Nat} {rr : Int64} {hh : Hp}  (X : ab_X p s m args meth c cX9_state 3 RX9 D cA sz) (hr : meth.sig.returnType = (some .long))  {H : Heap} {locs : List Loc} {ls : Array Slot} {u0 : Int64} {h : Hp} (S : ab_H D cA sz h s H locs) (hl : lv_has ls 3 []) (hF : f_X9_state_49 u0 h = some (rr, hh)) : W p l e (ab_rm 3 0 0) s m args below meth c H locs 0 0 (MQ below (ab_Q D cA sz (some (.long rr)) hh) args s 0 0 (fun q => sz ≤ q)) (F0 m 49 ls [.long u0]) := by
  unfold f_X9_state_49 at hF
  exact ab_lret X S hr hF dX9_state_49
def f_X9_state_46   (h : Hp) : Option (Int64 × Hp) :=
  f_X9_state_49 (9221120237041090560) h
set_option maxHeartbeats 4000000 in
set_option maxRecDepth 100000 in
theorem w_X9_state_46 {p : Program} {l : Launch} {e : Env} {s : State} {m : MethodId} {args : Array Value} {below : List Frame} {meth : Method} {c : Code} {D : va_G} {cA : Nat → ClassId} {sz : Nat} {rr : Int64} {hh : Hp}  (X : ab_X p s m args meth c cX9_state 3 RX9 D cA sz) (hr : meth.sig.returnType = (some .long))  {H : Heap} {locs : List Loc} {ls : Array Slot}  {h : Hp} (S : ab_H D cA sz h s H locs) (hl : lv_has ls 3 []) (hF : f_X9_state_46  h = some (rr, hh)) : W p l e (ab_rm 3 0 0) s m args below meth c H locs 0 0 (MQ below (ab_Q D cA sz (some (.long rr)) hh) args s 0 0 (fun q => sz ≤ q)) (F0 m 46 ls []) := by
  unfold f_X9_state_46 at hF
  refine lv_ldc2 (v := (9221120237041090560)) X.1 X.2.1 X.2.2.2.1 (X.2.2.2.2.1 _ ll_X9_198) dX9_state_46 ?_
  exact w_X9_state_49 X hr  S (lv_sub hl [] rfl) hF
def f_X9_state (this : Nat) (p0 : Int32) (p1 : Int32) (h : Hp) : Option (Int64 × Hp) :=
  (ab_ck h (some this) (9, 0)).bind fun a4 =>
  bnd (f_X9_isRun a4 p0 h) fun x1 h2 =>
  if x1 = 0 then
    f_X9_state_46 h2
  else
    (getR h2 (some this) 9 0).bind fun x7 =>
    (getR h2 (some this) 9 15).bind fun x8 =>
    (aldI h2 x8 11 p0).bind fun x9 =>
    (aldI h2 x7 11 x9).bind fun x10 =>
    bnd (f_X9_in p1 0 (x10 - 1) h2) fun x11 h12 =>
    if x11 = 0 then
      f_X9_state_46 h12
    else
      (getR h12 (some this) 9 30).bind fun x15 =>
      (aldD h12 x15 ((6 * p0) + p1)).bind fun x16 =>
      bnd (f_X9_bits x16 h12) fun x17 h18 =>
      f_X9_state_49 x17 h18
theorem mi_X9_state : ab_MI yX9_state cX9_state 3 (some .long) 2 := ⟨lc_yX9_state, lz_RX9, by decide, by decide, by decide +kernel⟩
set_option maxHeartbeats 4000000 in
set_option maxRecDepth 100000 in
theorem c_X9_state (l : Launch) (D : va_G) (cA : Nat → ClassId) (sz : Nat) {this : Nat} {p0 : Int32} {p1 : Int32} {h hh : Hp} {rr : Int64} (hF : f_X9_state this p0 p1 h = some (rr, hh)) : ab_C l D cA sz yX9_state cX9_state 3 (some .long) 3 0 0 [.ref this, .int p0, .int p1] h (some (.long rr)) hh := by
  refine Met.ofW (cc := cX9_state) (maxL := 3) (ret := (some .long)) (by decide) rfl ?_
  intro p e s m args below meth c s₁ B hml hv
  obtain ⟨rfl, hT, hR⟩ := hv
  have X : ab_X p s m _ meth c cX9_state 3 RX9 D cA sz := (ab_enter B hml hT hR).1
  have S := (ab_enter B hml hT hR).2
  have hr := B.returns
  obtain ⟨ls, hls, hl⟩ := ab_entry m [.ref this, .int p0, .int p1] 3 (lv := [(0, .ref this), (1, .int p0), (2, .int p1)]) (by simp [lg_sl, ab_cat, ab_cI, ab_cJ, ab_cD, ab_cF, ab_cA]) (by simp [lv_args, ab_cat, ab_cI, ab_cJ, ab_cD, ab_cF, ab_cA])
  rw [hls]
  have hl : lv_has ls 3 [(0, va_rf (some this)), (1, .int p0), (2, .int p1)] := hl
  unfold f_X9_state at hF
  show W p l e (ab_rm 3 0 0) s m _ below meth c s.heap [] 0 0 _ _
  refine ab_aload_n X dX9_state_0 rfl (lv_at hl 0 rfl) ?_
  refine lv_iload_n X.1 X.2.1 dX9_state_1 rfl (lv_at hl 1 rfl) ?_
  obtain ⟨a4, e5, hF⟩ := bind_out hF
  obtain ⟨x1, h2, e3, hF⟩ := bnd_out hF
  refine ab_callVi X S e5 (c_X9_isRun l D cA sz e3) rfl (by decide) mi_X9_isRun lm_X9_366 li_yX9_isRun ls_yX9_isRun (As := [.int p0]) (rest := []) rfl ⟨by decide, by decide⟩ ⟨by decide, by decide⟩ hl.1 rfl (by simp [ab_cat, ab_cI, ab_cJ, ab_cD, ab_cF]) dX9_state_2 (fun H1 locs1 S => ?_)
  refine lv_if_eq (tgt := 46) X.1 X.2.1 dX9_state_5 (by decide) (fun c6 => ?_) (fun c6 => ?_)
  · have hF := ab_pos c6 hF
    exact w_X9_state_46 X hr  S (lv_sub hl [] rfl) hF
  · have hF := ab_neg c6 hF
    refine lv_iload_n X.1 X.2.1 dX9_state_8 rfl (lv_at hl 2 rfl) ?_
    refine lv_iconst (v := 0) X.1 X.2.1 dX9_state_9 (by decide) ?_
    refine ab_aload_n X dX9_state_10 rfl (lv_at hl 0 rfl) ?_
    refine ab_getR X S hF fi_9_0 lf_X9_9 dX9_state_11 (fun x7 hF => ?_)
    refine ab_aload_n X dX9_state_14 rfl (lv_at hl 0 rfl) ?_
    refine ab_getR X S hF fi_9_15 lf_X9_52 dX9_state_15 (fun x8 hF => ?_)
    refine lv_iload_n X.1 X.2.1 dX9_state_18 rfl (lv_at hl 1 rfl) ?_
    refine ab_aldI X S hF dX9_state_19 (fun x9 hF => ?_)
    refine ab_aldI X S hF dX9_state_20 (fun x10 hF => ?_)
    refine lv_iconst (v := 1) X.1 X.2.1 dX9_state_21 (by decide) ?_
    refine lv_isub X.1 X.2.1 dX9_state_22 ?_
    obtain ⟨x11, h12, e13, hF⟩ := bnd_out hF
    refine ab_callSi X S (c_X9_in l D cA sz e13) mi_X9_in lm_X9_343 lt_yX9_in (As := [.int p1, .int 0, .int (x10 - 1)]) (rest := []) rfl ⟨by decide, by decide⟩ ⟨by decide, by decide⟩ hl.1 rfl (by simp [ab_cat, ab_cI, ab_cJ, ab_cD, ab_cF]) dX9_state_23 (fun H1 locs1 S => ?_)
    refine lv_if_eq (tgt := 46) X.1 X.2.1 dX9_state_26 (by decide) (fun c14 => ?_) (fun c14 => ?_)
    · have hF := ab_pos c14 hF
      exact w_X9_state_46 X hr  S (lv_sub hl [] rfl) hF
    · have hF := ab_neg c14 hF
      refine ab_aload_n X dX9_state_29 rfl (lv_at hl 0 rfl) ?_
      refine ab_getR X S hF fi_9_30 lf_X9_98 dX9_state_30 (fun x15 hF => ?_)
      refine lv_bipush (v := 6) X.1 X.2.1 dX9_state_33 (by decide) ?_
      refine lv_iload_n X.1 X.2.1 dX9_state_35 rfl (lv_at hl 1 rfl) ?_
      refine lv_imul X.1 X.2.1 dX9_state_36 ?_
      refine lv_iload_n X.1 X.2.1 dX9_state_37 rfl (lv_at hl 2 rfl) ?_
      refine lv_iadd X.1 X.2.1 dX9_state_38 ?_
      refine ab_aldD X S hF dX9_state_39 (fun x16 hF => ?_)
      obtain ⟨x17, h18, e19, hF⟩ := bnd_out hF
      refine ab_callSl X S (c_X9_bits l D cA sz e19) mi_X9_bits lm_X9_377 lt_yX9_bits (As := [.double x16]) (rest := []) rfl ⟨by decide, by decide⟩ ⟨by decide, by decide⟩ hl.1 rfl (by simp [ab_cat, ab_cI, ab_cJ, ab_cD, ab_cF]) dX9_state_40 (fun H1 locs1 S => ?_)
      refine lv_goto (tgt := 49) X.1 X.2.1 dX9_state_43 (by decide) ?_
      exact w_X9_state_49 X hr  S (lv_sub hl [] rfl) hF
def f_X9_clock (this : Nat) (p0 : Int32) (p1 : Int32) (h : Hp) : Option (Int64 × Hp) :=
  (ab_ck h (some this) (9, 0)).bind fun a4 =>
  bnd (f_X9_isRun a4 p0 h) fun x1 h2 =>
  if ¬ x1 = 0 then
    if p1.toInt < 0 ∨ 3 < p1.toInt then
      some ((9221120237041090560), h2)
    else if p1 = 0 then
      (getR h2 (some this) 9 25).bind fun x9 =>
      (aldD h2 x9 p0).bind fun x10 =>
      bnd (f_X9_bits x10 h2) fun x11 h12 =>
      some (x11, h12)
    else if p1 = 1 then
      (getR h2 (some this) 9 26).bind fun x15 =>
      (aldD h2 x15 p0).bind fun x16 =>
      bnd (f_X9_bits x16 h2) fun x17 h18 =>
      some (x17, h18)
    else if p1 = 2 then
      (getR h2 (some this) 9 29).bind fun x21 =>
      (aldD h2 x21 p0).bind fun x22 =>
      bnd (f_X9_bits x22 h2) fun x23 h24 =>
      some (x23, h24)
    else if p1 = 3 then
      (getR h2 (some this) 9 39).bind fun x27 =>
      (aldD h2 x27 p0).bind fun x28 =>
      bnd (f_X9_bits x28 h2) fun x29 h30 =>
      some (x29, h30)
    else none
  else
    some ((9221120237041090560), h2)
theorem mi_X9_clock : ab_MI yX9_clock cX9_clock 3 (some .long) 2 := ⟨lc_yX9_clock, lz_RX9, by decide, by decide, by decide +kernel⟩
set_option maxHeartbeats 4000000 in
set_option maxRecDepth 100000 in
theorem c_X9_clock (l : Launch) (D : va_G) (cA : Nat → ClassId) (sz : Nat) {this : Nat} {p0 : Int32} {p1 : Int32} {h hh : Hp} {rr : Int64} (hF : f_X9_clock this p0 p1 h = some (rr, hh)) : ab_C l D cA sz yX9_clock cX9_clock 3 (some .long) 3 0 0 [.ref this, .int p0, .int p1] h (some (.long rr)) hh := by
  refine Met.ofW (cc := cX9_clock) (maxL := 3) (ret := (some .long)) (by decide) rfl ?_
  intro p e s m args below meth c s₁ B hml hv
  obtain ⟨rfl, hT, hR⟩ := hv
  have X : ab_X p s m _ meth c cX9_clock 3 RX9 D cA sz := (ab_enter B hml hT hR).1
  have S := (ab_enter B hml hT hR).2
  have hr := B.returns
  obtain ⟨ls, hls, hl⟩ := ab_entry m [.ref this, .int p0, .int p1] 3 (lv := [(0, .ref this), (1, .int p0), (2, .int p1)]) (by simp [lg_sl, ab_cat, ab_cI, ab_cJ, ab_cD, ab_cF, ab_cA]) (by simp [lv_args, ab_cat, ab_cI, ab_cJ, ab_cD, ab_cF, ab_cA])
  rw [hls]
  have hl : lv_has ls 3 [(0, va_rf (some this)), (1, .int p0), (2, .int p1)] := hl
  unfold f_X9_clock at hF
  show W p l e (ab_rm 3 0 0) s m _ below meth c s.heap [] 0 0 _ _
  refine ab_aload_n X dX9_clock_0 rfl (lv_at hl 0 rfl) ?_
  refine lv_iload_n X.1 X.2.1 dX9_clock_1 rfl (lv_at hl 1 rfl) ?_
  obtain ⟨a4, e5, hF⟩ := bind_out hF
  obtain ⟨x1, h2, e3, hF⟩ := bnd_out hF
  refine ab_callVi X S e5 (c_X9_isRun l D cA sz e3) rfl (by decide) mi_X9_isRun lm_X9_366 li_yX9_isRun ls_yX9_isRun (As := [.int p0]) (rest := []) rfl ⟨by decide, by decide⟩ ⟨by decide, by decide⟩ hl.1 rfl (by simp [ab_cat, ab_cI, ab_cJ, ab_cD, ab_cF]) dX9_clock_2 (fun H1 locs1 S => ?_)
  refine lv_if_ne (tgt := 12) X.1 X.2.1 dX9_clock_5 (by decide) (fun c6 => ?_) (fun c6 => ?_)
  · have hF := ab_pos c6 hF
    refine lv_iload_n X.1 X.2.1 dX9_clock_12 rfl (lv_at hl 2 rfl) ?_
    by_cases c7 : p1.toInt < 0 ∨ 3 < p1.toInt
    · have hF := ab_pos c7 hF
      refine lv_tableOut (tgt := 84) X.1 X.2.1 dX9_clock_13 c7 (by decide) ?_
      refine lv_ldc2 (v := (9221120237041090560)) X.1 X.2.1 X.2.2.2.1 (X.2.2.2.2.1 _ ll_X9_198) dX9_clock_84 ?_
      exact ab_lret X S hr hF dX9_clock_87
    have hF := ab_neg c7 hF
    by_cases c8 : p1 = 0
    · have hF := ab_pos c8 hF
      refine ab_tab (tgt := 44) X dX9_clock_13 c8 (by decide) (by decide) rfl (by decide) ?_
      refine ab_aload_n X dX9_clock_44 rfl (lv_at hl 0 rfl) ?_
      refine ab_getR X S hF fi_9_25 lf_X9_83 dX9_clock_45 (fun x9 hF => ?_)
      refine lv_iload_n X.1 X.2.1 dX9_clock_48 rfl (lv_at hl 1 rfl) ?_
      refine ab_aldD X S hF dX9_clock_49 (fun x10 hF => ?_)
      obtain ⟨x11, h12, e13, hF⟩ := bnd_out hF
      refine ab_callSl X S (c_X9_bits l D cA sz e13) mi_X9_bits lm_X9_377 lt_yX9_bits (As := [.double x10]) (rest := []) rfl ⟨by decide, by decide⟩ ⟨by decide, by decide⟩ hl.1 rfl (by simp [ab_cat, ab_cI, ab_cJ, ab_cD, ab_cF]) dX9_clock_50 (fun H1 locs1 S => ?_)
      exact ab_lret X S hr hF dX9_clock_53
    have hF := ab_neg c8 hF
    by_cases c14 : p1 = 1
    · have hF := ab_pos c14 hF
      refine ab_tab (tgt := 54) X dX9_clock_13 c14 (by decide) (by decide) rfl (by decide) ?_
      refine ab_aload_n X dX9_clock_54 rfl (lv_at hl 0 rfl) ?_
      refine ab_getR X S hF fi_9_26 lf_X9_86 dX9_clock_55 (fun x15 hF => ?_)
      refine lv_iload_n X.1 X.2.1 dX9_clock_58 rfl (lv_at hl 1 rfl) ?_
      refine ab_aldD X S hF dX9_clock_59 (fun x16 hF => ?_)
      obtain ⟨x17, h18, e19, hF⟩ := bnd_out hF
      refine ab_callSl X S (c_X9_bits l D cA sz e19) mi_X9_bits lm_X9_377 lt_yX9_bits (As := [.double x16]) (rest := []) rfl ⟨by decide, by decide⟩ ⟨by decide, by decide⟩ hl.1 rfl (by simp [ab_cat, ab_cI, ab_cJ, ab_cD, ab_cF]) dX9_clock_60 (fun H1 locs1 S => ?_)
      exact ab_lret X S hr hF dX9_clock_63
    have hF := ab_neg c14 hF
    by_cases c20 : p1 = 2
    · have hF := ab_pos c20 hF
      refine ab_tab (tgt := 64) X dX9_clock_13 c20 (by decide) (by decide) rfl (by decide) ?_
      refine ab_aload_n X dX9_clock_64 rfl (lv_at hl 0 rfl) ?_
      refine ab_getR X S hF fi_9_29 lf_X9_95 dX9_clock_65 (fun x21 hF => ?_)
      refine lv_iload_n X.1 X.2.1 dX9_clock_68 rfl (lv_at hl 1 rfl) ?_
      refine ab_aldD X S hF dX9_clock_69 (fun x22 hF => ?_)
      obtain ⟨x23, h24, e25, hF⟩ := bnd_out hF
      refine ab_callSl X S (c_X9_bits l D cA sz e25) mi_X9_bits lm_X9_377 lt_yX9_bits (As := [.double x22]) (rest := []) rfl ⟨by decide, by decide⟩ ⟨by decide, by decide⟩ hl.1 rfl (by simp [ab_cat, ab_cI, ab_cJ, ab_cD, ab_cF]) dX9_clock_70 (fun H1 locs1 S => ?_)
      exact ab_lret X S hr hF dX9_clock_73
    have hF := ab_neg c20 hF
    by_cases c26 : p1 = 3
    · have hF := ab_pos c26 hF
      refine ab_tab (tgt := 74) X dX9_clock_13 c26 (by decide) (by decide) rfl (by decide) ?_
      refine ab_aload_n X dX9_clock_74 rfl (lv_at hl 0 rfl) ?_
      refine ab_getR X S hF fi_9_39 lf_X9_125 dX9_clock_75 (fun x27 hF => ?_)
      refine lv_iload_n X.1 X.2.1 dX9_clock_78 rfl (lv_at hl 1 rfl) ?_
      refine ab_aldD X S hF dX9_clock_79 (fun x28 hF => ?_)
      obtain ⟨x29, h30, e31, hF⟩ := bnd_out hF
      refine ab_callSl X S (c_X9_bits l D cA sz e31) mi_X9_bits lm_X9_377 lt_yX9_bits (As := [.double x28]) (rest := []) rfl ⟨by decide, by decide⟩ ⟨by decide, by decide⟩ hl.1 rfl (by simp [ab_cat, ab_cI, ab_cJ, ab_cD, ab_cF]) dX9_clock_80 (fun H1 locs1 S => ?_)
      exact ab_lret X S hr hF dX9_clock_83
    have hF := ab_neg c26 hF
    cases hF
  · have hF := ab_neg (fun q => q c6) hF
    refine lv_ldc2 (v := (9221120237041090560)) X.1 X.2.1 X.2.2.2.1 (X.2.2.2.2.1 _ ll_X9_198) dX9_clock_8 ?_
    exact ab_lret X S hr hF dX9_clock_11
def f_X9_stage_38   (h : Hp) : Option (Int64 × Hp) :=
  some ((9221120237041090560), h)
set_option maxHeartbeats 4000000 in
set_option maxRecDepth 100000 in
theorem w_X9_stage_38 {p : Program} {l : Launch} {e : Env} {s : State} {m : MethodId} {args : Array Value} {below : List Frame} {meth : Method} {c : Code} {D : va_G} {cA : Nat → ClassId} {sz : Nat} {rr : Int64} {hh : Hp}  (X : ab_X p s m args meth c cX9_stage 7 RX9 D cA sz) (hr : meth.sig.returnType = (some .long))  {H : Heap} {locs : List Loc} {ls : Array Slot}  {h : Hp} (S : ab_H D cA sz h s H locs) (hl : lv_has ls 7 []) (hF : f_X9_stage_38  h = some (rr, hh)) : W p l e (ab_rm 3 0 0) s m args below meth c H locs 0 0 (MQ below (ab_Q D cA sz (some (.long rr)) hh) args s 0 0 (fun q => sz ≤ q)) (F0 m 38 ls []) := by
  unfold f_X9_stage_38 at hF
  refine lv_ldc2 (v := (9221120237041090560)) X.1 X.2.1 X.2.2.2.1 (X.2.2.2.2.1 _ ll_X9_198) dX9_stage_38 ?_
  exact ab_lret X S hr hF dX9_stage_41
def f_X9_stage_154  (u0 : Int64) (h : Hp) : Option (Int64 × Hp) :=
  some (u0, h)
set_option maxHeartbeats 4000000 in
set_option maxRecDepth 100000 in
theorem w_X9_stage_154 {p : Program} {l : Launch} {e : Env} {s : State} {m : MethodId} {args : Array Value} {below : List Frame} {meth : Method} {c : Code} {D : va_G} {cA : Nat → ClassId} {sz : Nat} {rr : Int64} {hh : Hp}  (X : ab_X p s m args meth c cX9_stage 7 RX9 D cA sz) (hr : meth.sig.returnType = (some .long))  {H : Heap} {locs : List Loc} {ls : Array Slot} {u0 : Int64} {h : Hp} (S : ab_H D cA sz h s H locs) (hl : lv_has ls 7 []) (hF : f_X9_stage_154 u0 h = some (rr, hh)) : W p l e (ab_rm 3 0 0) s m args below meth c H locs 0 0 (MQ below (ab_Q D cA sz (some (.long rr)) hh) args s 0 0 (fun q => sz ≤ q)) (F0 m 154 ls [.long u0]) := by
  unfold f_X9_stage_154 at hF
  exact ab_lret X S hr hF dX9_stage_154
def f_X9_stage_121  (v0 : Option Nat) (v1 : Int32) (v2 : Int32) (v3 : Int32) (u0 : Int32) (h : Hp) : Option (Int64 × Hp) :=
  if u0 = 0 then
    f_X9_stage_154 (9221120237041090560) h
  else
    (getR h v0 9 44).bind fun x2 =>
    (aldD h x2 (((5 * ((6 * v1) + v3)) + v2) - 1)).bind fun x3 =>
    bnd (f_X9_bits x3 h) fun x4 h5 =>
    f_X9_stage_154 x4 h5
set_option maxHeartbeats 4000000 in
set_option maxRecDepth 100000 in
theorem w_X9_stage_121 {p : Program} {l : Launch} {e : Env} {s : State} {m : MethodId} {args : Array Value} {below : List Frame} {meth : Method} {c : Code} {D : va_G} {cA : Nat → ClassId} {sz : Nat} {rr : Int64} {hh : Hp}  (X : ab_X p s m args meth c cX9_stage 7 RX9 D cA sz) (hr : meth.sig.returnType = (some .long))  {H : Heap} {locs : List Loc} {ls : Array Slot} {v0 : Option Nat} {v1 : Int32} {v2 : Int32} {v3 : Int32} {u0 : Int32} {h : Hp} (S : ab_H D cA sz h s H locs) (hl : lv_has ls 7 [(0, va_rf v0), (1, .int v1), (2, .int v2), (3, .int v3)]) (hF : f_X9_stage_121 v0 v1 v2 v3 u0 h = some (rr, hh)) : W p l e (ab_rm 3 0 0) s m args below meth c H locs 0 0 (MQ below (ab_Q D cA sz (some (.long rr)) hh) args s 0 0 (fun q => sz ≤ q)) (F0 m 121 ls [.int u0]) := by
  unfold f_X9_stage_121 at hF
  refine lv_istore (lv' := [(6, .int u0), (0, va_rf v0), (1, .int v1), (2, .int v2), (3, .int v3)]) X.1 X.2.1 dX9_stage_121 hl (by decide) (by simp [ab_cat, ab_cI, ab_cJ, ab_cD, ab_cF]) (fun ls hl => ?_)
  refine lv_iload X.1 X.2.1 dX9_stage_123 (lv_at hl 0 rfl) ?_
  refine lv_if_eq (tgt := 151) X.1 X.2.1 dX9_stage_125 (by decide) (fun c1 => ?_) (fun c1 => ?_)
  · have hF := ab_pos c1 hF
    refine lv_ldc2 (v := (9221120237041090560)) X.1 X.2.1 X.2.2.2.1 (X.2.2.2.2.1 _ ll_X9_198) dX9_stage_151 ?_
    exact w_X9_stage_154 X hr  S (lv_sub hl [] rfl) hF
  · have hF := ab_neg c1 hF
    refine ab_aload_n X dX9_stage_128 rfl (lv_at hl 1 rfl) ?_
    refine ab_getR X S hF fi_9_44 lf_X9_140 dX9_stage_129 (fun x2 hF => ?_)
    refine lv_iconst (v := 5) X.1 X.2.1 dX9_stage_132 (by decide) ?_
    refine lv_bipush (v := 6) X.1 X.2.1 dX9_stage_133 (by decide) ?_
    refine lv_iload_n X.1 X.2.1 dX9_stage_135 rfl (lv_at hl 2 rfl) ?_
    refine lv_imul X.1 X.2.1 dX9_stage_136 ?_
    refine lv_iload_n X.1 X.2.1 dX9_stage_137 rfl (lv_at hl 4 rfl) ?_
    refine lv_iadd X.1 X.2.1 dX9_stage_138 ?_
    refine lv_imul X.1 X.2.1 dX9_stage_139 ?_
    refine lv_iload_n X.1 X.2.1 dX9_stage_140 rfl (lv_at hl 3 rfl) ?_
    refine lv_iadd X.1 X.2.1 dX9_stage_141 ?_
    refine lv_iconst (v := 1) X.1 X.2.1 dX9_stage_142 (by decide) ?_
    refine lv_isub X.1 X.2.1 dX9_stage_143 ?_
    refine ab_aldD X S hF dX9_stage_144 (fun x3 hF => ?_)
    obtain ⟨x4, h5, e6, hF⟩ := bnd_out hF
    refine ab_callSl X S (c_X9_bits l D cA sz e6) mi_X9_bits lm_X9_377 lt_yX9_bits (As := [.double x3]) (rest := []) rfl ⟨by decide, by decide⟩ ⟨by decide, by decide⟩ hl.1 rfl (by simp [ab_cat, ab_cI, ab_cJ, ab_cD, ab_cF]) dX9_stage_145 (fun H1 locs1 S => ?_)
    refine lv_goto (tgt := 154) X.1 X.2.1 dX9_stage_148 (by decide) ?_
    exact w_X9_stage_154 X hr  S (lv_sub hl [] rfl) hF
def f_X9_stage_116  (v0 : Option Nat) (v1 : Int32) (v2 : Int32) (v3 : Int32) (h : Hp) : Option (Int64 × Hp) :=
  f_X9_stage_121 v0 v1 v2 v3 1 h
set_option maxHeartbeats 4000000 in
set_option maxRecDepth 100000 in
theorem w_X9_stage_116 {p : Program} {l : Launch} {e : Env} {s : State} {m : MethodId} {args : Array Value} {below : List Frame} {meth : Method} {c : Code} {D : va_G} {cA : Nat → ClassId} {sz : Nat} {rr : Int64} {hh : Hp}  (X : ab_X p s m args meth c cX9_stage 7 RX9 D cA sz) (hr : meth.sig.returnType = (some .long))  {H : Heap} {locs : List Loc} {ls : Array Slot} {v0 : Option Nat} {v1 : Int32} {v2 : Int32} {v3 : Int32} {h : Hp} (S : ab_H D cA sz h s H locs) (hl : lv_has ls 7 [(0, va_rf v0), (1, .int v1), (2, .int v2), (3, .int v3)]) (hF : f_X9_stage_116 v0 v1 v2 v3 h = some (rr, hh)) : W p l e (ab_rm 3 0 0) s m args below meth c H locs 0 0 (MQ below (ab_Q D cA sz (some (.long rr)) hh) args s 0 0 (fun q => sz ≤ q)) (F0 m 116 ls []) := by
  unfold f_X9_stage_116 at hF
  refine lv_iconst (v := 1) X.1 X.2.1 dX9_stage_116 (by decide) ?_
  refine lv_goto (tgt := 121) X.1 X.2.1 dX9_stage_117 (by decide) ?_
  exact w_X9_stage_121 X hr  S (lv_sub hl [0, 1, 2, 3] rfl) hF
def f_X9_stage_120  (v0 : Option Nat) (v1 : Int32) (v2 : Int32) (v3 : Int32) (h : Hp) : Option (Int64 × Hp) :=
  f_X9_stage_121 v0 v1 v2 v3 0 h
set_option maxHeartbeats 4000000 in
set_option maxRecDepth 100000 in
theorem w_X9_stage_120 {p : Program} {l : Launch} {e : Env} {s : State} {m : MethodId} {args : Array Value} {below : List Frame} {meth : Method} {c : Code} {D : va_G} {cA : Nat → ClassId} {sz : Nat} {rr : Int64} {hh : Hp}  (X : ab_X p s m args meth c cX9_stage 7 RX9 D cA sz) (hr : meth.sig.returnType = (some .long))  {H : Heap} {locs : List Loc} {ls : Array Slot} {v0 : Option Nat} {v1 : Int32} {v2 : Int32} {v3 : Int32} {h : Hp} (S : ab_H D cA sz h s H locs) (hl : lv_has ls 7 [(0, va_rf v0), (1, .int v1), (2, .int v2), (3, .int v3)]) (hF : f_X9_stage_120 v0 v1 v2 v3 h = some (rr, hh)) : W p l e (ab_rm 3 0 0) s m args below meth c H locs 0 0 (MQ below (ab_Q D cA sz (some (.long rr)) hh) args s 0 0 (fun q => sz ≤ q)) (F0 m 120 ls []) := by
  unfold f_X9_stage_120 at hF
  refine lv_iconst (v := 0) X.1 X.2.1 dX9_stage_120 (by decide) ?_
  exact w_X9_stage_121 X hr  S (lv_sub hl [0, 1, 2, 3] rfl) hF
def f_X9_stage_93  (v0 : Option Nat) (v1 : Int32) (v2 : Int32) (v3 : Int32) (v4 : Int32) (u0 : Int32) (h : Hp) : Option (Int64 × Hp) :=
  bnd (f_X9_in v2 1 u0 h) fun x1 h2 =>
  if ¬ x1 = 0 then
    f_X9_stage_116 v0 v1 v2 v3 h2
  else
    if ¬ v4 = 4 then
      f_X9_stage_120 v0 v1 v2 v3 h2
    else
      if ¬ v2 = 5 then
        f_X9_stage_120 v0 v1 v2 v3 h2
      else
        f_X9_stage_116 v0 v1 v2 v3 h2
set_option maxHeartbeats 4000000 in
set_option maxRecDepth 100000 in
theorem w_X9_stage_93 {p : Program} {l : Launch} {e : Env} {s : State} {m : MethodId} {args : Array Value} {below : List Frame} {meth : Method} {c : Code} {D : va_G} {cA : Nat → ClassId} {sz : Nat} {rr : Int64} {hh : Hp}  (X : ab_X p s m args meth c cX9_stage 7 RX9 D cA sz) (hr : meth.sig.returnType = (some .long))  {H : Heap} {locs : List Loc} {ls : Array Slot} {v0 : Option Nat} {v1 : Int32} {v2 : Int32} {v3 : Int32} {v4 : Int32} {u0 : Int32} {h : Hp} (S : ab_H D cA sz h s H locs) (hl : lv_has ls 7 [(0, va_rf v0), (1, .int v1), (2, .int v2), (3, .int v3), (4, .int v4)]) (hF : f_X9_stage_93 v0 v1 v2 v3 v4 u0 h = some (rr, hh)) : W p l e (ab_rm 3 0 0) s m args below meth c H locs 0 0 (MQ below (ab_Q D cA sz (some (.long rr)) hh) args s 0 0 (fun q => sz ≤ q)) (F0 m 93 ls [.int u0]) := by
  unfold f_X9_stage_93 at hF
  refine lv_istore (lv' := [(5, .int u0), (0, va_rf v0), (1, .int v1), (2, .int v2), (3, .int v3), (4, .int v4)]) X.1 X.2.1 dX9_stage_93 hl (by decide) (by simp [ab_cat, ab_cI, ab_cJ, ab_cD, ab_cF]) (fun ls hl => ?_)
  refine lv_iload_n X.1 X.2.1 dX9_stage_95 rfl (lv_at hl 3 rfl) ?_
  refine lv_iconst (v := 1) X.1 X.2.1 dX9_stage_96 (by decide) ?_
  refine lv_iload X.1 X.2.1 dX9_stage_97 (lv_at hl 0 rfl) ?_
  obtain ⟨x1, h2, e3, hF⟩ := bnd_out hF
  refine ab_callSi X S (c_X9_in l D cA sz e3) mi_X9_in lm_X9_343 lt_yX9_in (As := [.int v2, .int 1, .int u0]) (rest := []) rfl ⟨by decide, by decide⟩ ⟨by decide, by decide⟩ hl.1 rfl (by simp [ab_cat, ab_cI, ab_cJ, ab_cD, ab_cF]) dX9_stage_99 (fun H1 locs1 S => ?_)
  refine lv_if_ne (tgt := 116) X.1 X.2.1 dX9_stage_102 (by decide) (fun c4 => ?_) (fun c4 => ?_)
  · have hF := ab_pos c4 hF
    exact w_X9_stage_116 X hr  S (lv_sub hl [1, 2, 3, 4] rfl) hF
  · have hF := ab_neg (fun q => q c4) hF
    refine lv_iload X.1 X.2.1 dX9_stage_105 (lv_at hl 5 rfl) ?_
    refine lv_iconst (v := 4) X.1 X.2.1 dX9_stage_107 (by decide) ?_
    refine lv_icmp_ne (tgt := 120) X.1 X.2.1 dX9_stage_108 (by decide) (fun c5 => ?_) (fun c5 => ?_)
    · have hF := ab_pos c5 hF
      exact w_X9_stage_120 X hr  S (lv_sub hl [1, 2, 3, 4] rfl) hF
    · have hF := ab_neg (fun q => q c5) hF
      refine lv_iload_n X.1 X.2.1 dX9_stage_111 rfl (lv_at hl 3 rfl) ?_
      refine lv_iconst (v := 5) X.1 X.2.1 dX9_stage_112 (by decide) ?_
      refine lv_icmp_ne (tgt := 120) X.1 X.2.1 dX9_stage_113 (by decide) (fun c6 => ?_) (fun c6 => ?_)
      · have hF := ab_pos c6 hF
        exact w_X9_stage_120 X hr  S (lv_sub hl [1, 2, 3, 4] rfl) hF
      · have hF := ab_neg (fun q => q c6) hF
        exact w_X9_stage_116 X hr  S (lv_sub hl [1, 2, 3, 4] rfl) hF
def f_X9_stage_71  (v0 : Option Nat) (v1 : Int32) (v2 : Int32) (v3 : Int32) (v4 : Int32) (h : Hp) : Option (Int64 × Hp) :=
  f_X9_stage_93 v0 v1 v2 v3 v4 2 h
set_option maxHeartbeats 4000000 in
set_option maxRecDepth 100000 in
theorem w_X9_stage_71 {p : Program} {l : Launch} {e : Env} {s : State} {m : MethodId} {args : Array Value} {below : List Frame} {meth : Method} {c : Code} {D : va_G} {cA : Nat → ClassId} {sz : Nat} {rr : Int64} {hh : Hp}  (X : ab_X p s m args meth c cX9_stage 7 RX9 D cA sz) (hr : meth.sig.returnType = (some .long))  {H : Heap} {locs : List Loc} {ls : Array Slot} {v0 : Option Nat} {v1 : Int32} {v2 : Int32} {v3 : Int32} {v4 : Int32} {h : Hp} (S : ab_H D cA sz h s H locs) (hl : lv_has ls 7 [(0, va_rf v0), (1, .int v1), (2, .int v2), (3, .int v3), (4, .int v4)]) (hF : f_X9_stage_71 v0 v1 v2 v3 v4 h = some (rr, hh)) : W p l e (ab_rm 3 0 0) s m args below meth c H locs 0 0 (MQ below (ab_Q D cA sz (some (.long rr)) hh) args s 0 0 (fun q => sz ≤ q)) (F0 m 71 ls []) := by
  unfold f_X9_stage_71 at hF
  refine lv_iconst (v := 2) X.1 X.2.1 dX9_stage_71 (by decide) ?_
  refine lv_goto (tgt := 93) X.1 X.2.1 dX9_stage_72 (by decide) ?_
  exact w_X9_stage_93 X hr  S (lv_sub hl [0, 1, 2, 3, 4] rfl) hF
def f_X9_stage_88  (v0 : Option Nat) (v1 : Int32) (v2 : Int32) (v3 : Int32) (v4 : Int32) (h : Hp) : Option (Int64 × Hp) :=
  f_X9_stage_93 v0 v1 v2 v3 v4 3 h
set_option maxHeartbeats 4000000 in
set_option maxRecDepth 100000 in
theorem w_X9_stage_88 {p : Program} {l : Launch} {e : Env} {s : State} {m : MethodId} {args : Array Value} {below : List Frame} {meth : Method} {c : Code} {D : va_G} {cA : Nat → ClassId} {sz : Nat} {rr : Int64} {hh : Hp}  (X : ab_X p s m args meth c cX9_stage 7 RX9 D cA sz) (hr : meth.sig.returnType = (some .long))  {H : Heap} {locs : List Loc} {ls : Array Slot} {v0 : Option Nat} {v1 : Int32} {v2 : Int32} {v3 : Int32} {v4 : Int32} {h : Hp} (S : ab_H D cA sz h s H locs) (hl : lv_has ls 7 [(0, va_rf v0), (1, .int v1), (2, .int v2), (3, .int v3), (4, .int v4)]) (hF : f_X9_stage_88 v0 v1 v2 v3 v4 h = some (rr, hh)) : W p l e (ab_rm 3 0 0) s m args below meth c H locs 0 0 (MQ below (ab_Q D cA sz (some (.long rr)) hh) args s 0 0 (fun q => sz ≤ q)) (F0 m 88 ls []) := by
  unfold f_X9_stage_88 at hF
  refine lv_iconst (v := 3) X.1 X.2.1 dX9_stage_88 (by decide) ?_
  refine lv_goto (tgt := 93) X.1 X.2.1 dX9_stage_89 (by decide) ?_
  exact w_X9_stage_93 X hr  S (lv_sub hl [0, 1, 2, 3, 4] rfl) hF
def f_X9_stage (this : Nat) (p0 : Int32) (p1 : Int32) (p2 : Int32) (h : Hp) : Option (Int64 × Hp) :=
  (ab_ck h (some this) (9, 0)).bind fun a4 =>
  bnd (f_X9_isRun a4 p0 h) fun x1 h2 =>
  if x1 = 0 then
    f_X9_stage_38 h2
  else
    (getR h2 (some this) 9 0).bind fun x7 =>
    (getR h2 (some this) 9 15).bind fun x8 =>
    (aldI h2 x8 11 p0).bind fun x9 =>
    (aldI h2 x7 11 x9).bind fun x10 =>
    bnd (f_X9_in p2 0 (x10 - 1) h2) fun x11 h12 =>
    if x11 = 0 then
      f_X9_stage_38 h12
    else
      (getR h12 (some this) 9 23).bind fun x15 =>
      (aldI h12 x15 12 p0).bind fun x16 =>
      if ¬ x16 = 0 then
        (getR h12 (some this) 9 37).bind fun x18 =>
        (aldI h12 x18 11 p0).bind fun x19 =>
        if ¬ x19 = 0 then
          if x19 = 1 then
            f_X9_stage_71 (some this) p0 p1 p2 x19 h12
          else
            if ¬ x19 = 5 then
              if x19 = 2 then
                f_X9_stage_88 (some this) p0 p1 p2 x19 h12
              else
                if ¬ x19 = 6 then
                  f_X9_stage_93 (some this) p0 p1 p2 x19 4 h12
                else
                  f_X9_stage_88 (some this) p0 p1 p2 x19 h12
            else
              f_X9_stage_71 (some this) p0 p1 p2 x19 h12
        else
          f_X9_stage_93 (some this) p0 p1 p2 x19 1 h12
      else
        f_X9_stage_38 h12
theorem mi_X9_stage : ab_MI yX9_stage cX9_stage 7 (some .long) 3 := ⟨lc_yX9_stage, lz_RX9, by decide, by decide, by decide +kernel⟩
set_option maxHeartbeats 4000000 in
set_option maxRecDepth 100000 in
theorem c_X9_stage (l : Launch) (D : va_G) (cA : Nat → ClassId) (sz : Nat) {this : Nat} {p0 : Int32} {p1 : Int32} {p2 : Int32} {h hh : Hp} {rr : Int64} (hF : f_X9_stage this p0 p1 p2 h = some (rr, hh)) : ab_C l D cA sz yX9_stage cX9_stage 7 (some .long) 3 0 0 [.ref this, .int p0, .int p1, .int p2] h (some (.long rr)) hh := by
  refine Met.ofW (cc := cX9_stage) (maxL := 7) (ret := (some .long)) (by decide) rfl ?_
  intro p e s m args below meth c s₁ B hml hv
  obtain ⟨rfl, hT, hR⟩ := hv
  have X : ab_X p s m _ meth c cX9_stage 7 RX9 D cA sz := (ab_enter B hml hT hR).1
  have S := (ab_enter B hml hT hR).2
  have hr := B.returns
  obtain ⟨ls, hls, hl⟩ := ab_entry m [.ref this, .int p0, .int p1, .int p2] 7 (lv := [(0, .ref this), (1, .int p0), (2, .int p1), (3, .int p2)]) (by simp [lg_sl, ab_cat, ab_cI, ab_cJ, ab_cD, ab_cF, ab_cA]) (by simp [lv_args, ab_cat, ab_cI, ab_cJ, ab_cD, ab_cF, ab_cA])
  rw [hls]
  have hl : lv_has ls 7 [(0, va_rf (some this)), (1, .int p0), (2, .int p1), (3, .int p2)] := hl
  unfold f_X9_stage at hF
  show W p l e (ab_rm 3 0 0) s m _ below meth c s.heap [] 0 0 _ _
  refine ab_aload_n X dX9_stage_0 rfl (lv_at hl 0 rfl) ?_
  refine lv_iload_n X.1 X.2.1 dX9_stage_1 rfl (lv_at hl 1 rfl) ?_
  obtain ⟨a4, e5, hF⟩ := bind_out hF
  obtain ⟨x1, h2, e3, hF⟩ := bnd_out hF
  refine ab_callVi X S e5 (c_X9_isRun l D cA sz e3) rfl (by decide) mi_X9_isRun lm_X9_366 li_yX9_isRun ls_yX9_isRun (As := [.int p0]) (rest := []) rfl ⟨by decide, by decide⟩ ⟨by decide, by decide⟩ hl.1 rfl (by simp [ab_cat, ab_cI, ab_cJ, ab_cD, ab_cF]) dX9_stage_2 (fun H1 locs1 S => ?_)
  refine lv_if_eq (tgt := 38) X.1 X.2.1 dX9_stage_5 (by decide) (fun c6 => ?_) (fun c6 => ?_)
  · have hF := ab_pos c6 hF
    exact w_X9_stage_38 X hr  S (lv_sub hl [] rfl) hF
  · have hF := ab_neg c6 hF
    refine lv_iload_n X.1 X.2.1 dX9_stage_8 rfl (lv_at hl 3 rfl) ?_
    refine lv_iconst (v := 0) X.1 X.2.1 dX9_stage_9 (by decide) ?_
    refine ab_aload_n X dX9_stage_10 rfl (lv_at hl 0 rfl) ?_
    refine ab_getR X S hF fi_9_0 lf_X9_9 dX9_stage_11 (fun x7 hF => ?_)
    refine ab_aload_n X dX9_stage_14 rfl (lv_at hl 0 rfl) ?_
    refine ab_getR X S hF fi_9_15 lf_X9_52 dX9_stage_15 (fun x8 hF => ?_)
    refine lv_iload_n X.1 X.2.1 dX9_stage_18 rfl (lv_at hl 1 rfl) ?_
    refine ab_aldI X S hF dX9_stage_19 (fun x9 hF => ?_)
    refine ab_aldI X S hF dX9_stage_20 (fun x10 hF => ?_)
    refine lv_iconst (v := 1) X.1 X.2.1 dX9_stage_21 (by decide) ?_
    refine lv_isub X.1 X.2.1 dX9_stage_22 ?_
    obtain ⟨x11, h12, e13, hF⟩ := bnd_out hF
    refine ab_callSi X S (c_X9_in l D cA sz e13) mi_X9_in lm_X9_343 lt_yX9_in (As := [.int p2, .int 0, .int (x10 - 1)]) (rest := []) rfl ⟨by decide, by decide⟩ ⟨by decide, by decide⟩ hl.1 rfl (by simp [ab_cat, ab_cI, ab_cJ, ab_cD, ab_cF]) dX9_stage_23 (fun H1 locs1 S => ?_)
    refine lv_if_eq (tgt := 38) X.1 X.2.1 dX9_stage_26 (by decide) (fun c14 => ?_) (fun c14 => ?_)
    · have hF := ab_pos c14 hF
      exact w_X9_stage_38 X hr  S (lv_sub hl [] rfl) hF
    · have hF := ab_neg c14 hF
      refine ab_aload_n X dX9_stage_29 rfl (lv_at hl 0 rfl) ?_
      refine ab_getR X S hF fi_9_23 lf_X9_77 dX9_stage_30 (fun x15 hF => ?_)
      refine lv_iload_n X.1 X.2.1 dX9_stage_33 rfl (lv_at hl 1 rfl) ?_
      refine ab_aldZ X S hF dX9_stage_34 (fun x16 hF => ?_)
      refine lv_if_ne (tgt := 42) X.1 X.2.1 dX9_stage_35 (by decide) (fun c17 => ?_) (fun c17 => ?_)
      · have hF := ab_pos c17 hF
        refine ab_aload_n X dX9_stage_42 rfl (lv_at hl 0 rfl) ?_
        refine ab_getR X S hF fi_9_37 lf_X9_119 dX9_stage_43 (fun x18 hF => ?_)
        refine lv_iload_n X.1 X.2.1 dX9_stage_46 rfl (lv_at hl 1 rfl) ?_
        refine ab_aldI X S hF dX9_stage_47 (fun x19 hF => ?_)
        refine lv_istore (lv' := [(4, .int x19), (0, va_rf (some this)), (1, .int p0), (2, .int p1), (3, .int p2)]) X.1 X.2.1 dX9_stage_48 hl (by decide) (by simp [ab_cat, ab_cI, ab_cJ, ab_cD, ab_cF]) (fun ls hl => ?_)
        refine lv_iload X.1 X.2.1 dX9_stage_50 (lv_at hl 0 rfl) ?_
        refine lv_if_ne (tgt := 59) X.1 X.2.1 dX9_stage_52 (by decide) (fun c20 => ?_) (fun c20 => ?_)
        · have hF := ab_pos c20 hF
          refine lv_iload X.1 X.2.1 dX9_stage_59 (lv_at hl 0 rfl) ?_
          refine lv_iconst (v := 1) X.1 X.2.1 dX9_stage_61 (by decide) ?_
          refine lv_icmp_eq (tgt := 71) X.1 X.2.1 dX9_stage_62 (by decide) (fun c21 => ?_) (fun c21 => ?_)
          · have hF := ab_pos c21 hF
            exact w_X9_stage_71 X hr  S (lv_sub hl [1, 2, 3, 4, 0] rfl) hF
          · have hF := ab_neg c21 hF
            refine lv_iload X.1 X.2.1 dX9_stage_65 (lv_at hl 0 rfl) ?_
            refine lv_iconst (v := 5) X.1 X.2.1 dX9_stage_67 (by decide) ?_
            refine lv_icmp_ne (tgt := 75) X.1 X.2.1 dX9_stage_68 (by decide) (fun c22 => ?_) (fun c22 => ?_)
            · have hF := ab_pos c22 hF
              refine lv_iload X.1 X.2.1 dX9_stage_75 (lv_at hl 0 rfl) ?_
              refine lv_iconst (v := 2) X.1 X.2.1 dX9_stage_77 (by decide) ?_
              refine lv_icmp_eq (tgt := 88) X.1 X.2.1 dX9_stage_78 (by decide) (fun c23 => ?_) (fun c23 => ?_)
              · have hF := ab_pos c23 hF
                exact w_X9_stage_88 X hr  S (lv_sub hl [1, 2, 3, 4, 0] rfl) hF
              · have hF := ab_neg c23 hF
                refine lv_iload X.1 X.2.1 dX9_stage_81 (lv_at hl 0 rfl) ?_
                refine lv_bipush (v := 6) X.1 X.2.1 dX9_stage_83 (by decide) ?_
                refine lv_icmp_ne (tgt := 92) X.1 X.2.1 dX9_stage_85 (by decide) (fun c24 => ?_) (fun c24 => ?_)
                · have hF := ab_pos c24 hF
                  refine lv_iconst (v := 4) X.1 X.2.1 dX9_stage_92 (by decide) ?_
                  exact w_X9_stage_93 X hr  S (lv_sub hl [1, 2, 3, 4, 0] rfl) hF
                · have hF := ab_neg (fun q => q c24) hF
                  exact w_X9_stage_88 X hr  S (lv_sub hl [1, 2, 3, 4, 0] rfl) hF
            · have hF := ab_neg (fun q => q c22) hF
              exact w_X9_stage_71 X hr  S (lv_sub hl [1, 2, 3, 4, 0] rfl) hF
        · have hF := ab_neg (fun q => q c20) hF
          refine lv_iconst (v := 1) X.1 X.2.1 dX9_stage_55 (by decide) ?_
          refine lv_goto (tgt := 93) X.1 X.2.1 dX9_stage_56 (by decide) ?_
          exact w_X9_stage_93 X hr  S (lv_sub hl [1, 2, 3, 4, 0] rfl) hF
      · have hF := ab_neg (fun q => q c17) hF
        exact w_X9_stage_38 X hr  S (lv_sub hl [] rfl) hF
