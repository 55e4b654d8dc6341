def f_X1_signOf_43  (u0 : Int32) (h : Hp) : Option (Int32 × Hp) :=
  some (u0, h)
set_option maxHeartbeats 4000000 in
set_option maxRecDepth 100000 in
theorem w_X1_signOf_43 {p : Program} {l : Launch} {e : Env} {s : State} {m : MethodId} {args : Array Value} {below : List Frame} {meth : Method} {c : Code} {D : va_G} {cA : Nat → ClassId} {sz : Nat} {rr : Int32} {hh : Hp}  (X : ab_X p s m args meth c cX1_signOf 4 RX1 D cA sz) (hr : meth.sig.returnType = (some .int))  {H : Heap} {locs : List Loc} {ls : Array Slot} {u0 : Int32} {h : Hp} (S : ab_H D cA sz h s H locs) (hl : lv_has ls 4 []) (hF : f_X1_signOf_43 u0 h = some (rr, hh)) : W p l e (ab_rm 0 0 0) s m args below meth c H locs 0 0 (MQ below (ab_Q D cA sz (some (.int rr)) hh) args s 0 0 (fun q => sz ≤ q)) (F0 m 43 ls [.int u0]) := by
  unfold f_X1_signOf_43 at hF
  exact ab_iret X S hr hF dX1_signOf_43
def f_X1_signOf (this : Nat) (p0 : Int32) (h : Hp) : Option (Int32 × Hp) :=
  (getR h (some this) 1 13).bind fun x1 =>
  (getR h x1 3 1).bind fun x2 =>
  (aldI h x2 12 p0).bind fun x3 =>
  if x3 = 0 then
    (getR h (some this) 1 13).bind fun x5 =>
    (getR h x5 3 0).bind fun x6 =>
    (aldD h x6 p0).bind fun x7 =>
    if 0 ≤ (Op.cmpValue (FP.dcmp x7 FP.dconst0) CmpOp.g) then
      if (Op.cmpValue (FP.dcmp x7 FP.dconst0) CmpOp.l) ≤ 0 then
        f_X1_signOf_43 0 h
      else
        f_X1_signOf_43 1 h
    else
      some ((-1), h)
  else
    some (2, h)
theorem mi_X1_signOf : ab_MI yX1_signOf cX1_signOf 4 (some .int) 1 := ⟨lc_yX1_signOf, lz_RX1, by decide, by decide, by decide +kernel⟩
set_option maxHeartbeats 4000000 in
set_option maxRecDepth 100000 in
theorem c_X1_signOf (l : Launch) (D : va_G) (cA : Nat → ClassId) (sz : Nat) {this : Nat} {p0 : Int32} {h hh : Hp} {rr : Int32} (hF : f_X1_signOf this p0 h = some (rr, hh)) : ab_C l D cA sz yX1_signOf cX1_signOf 4 (some .int) 0 0 0 [.ref this, .int p0] h (some (.int rr)) hh := by
  refine Met.ofW (cc := cX1_signOf) (maxL := 4) (ret := (some .int)) (by decide) rfl ?_
  intro p e s m args below meth c s₁ B hml hv
  obtain ⟨rfl, hT, hR⟩ := hv
  have X : ab_X p s m _ meth c cX1_signOf 4 RX1 D cA sz := (ab_enter B hml hT hR).1
  have S := (ab_enter B hml hT hR).2
  have hr := B.returns
  obtain ⟨ls, hls, hl⟩ := ab_entry m [.ref this, .int p0] 4 (lv := [(0, .ref this), (1, .int p0)]) (by simp [lg_sl, ab_cat, ab_cI, ab_cJ, ab_cD, ab_cF, ab_cA]) (by simp [lv_args, ab_cat, ab_cI, ab_cJ, ab_cD, ab_cF, ab_cA])
  rw [hls]
  have hl : lv_has ls 4 [(0, va_rf (some this)), (1, .int p0)] := hl
  unfold f_X1_signOf at hF
  show W p l e (ab_rm 0 0 0) s m _ below meth c s.heap [] 0 0 _ _
  refine ab_aload_n X dX1_signOf_0 rfl (lv_at hl 0 rfl) ?_
  refine ab_getR X S hF fi_1_13 lf_X1_51 dX1_signOf_1 (fun x1 hF => ?_)
  refine ab_getR X S hF fi_3_1 lf_X1_89 dX1_signOf_4 (fun x2 hF => ?_)
  refine lv_iload_n X.1 X.2.1 dX1_signOf_7 rfl (lv_at hl 1 rfl) ?_
  refine ab_aldZ X S hF dX1_signOf_8 (fun x3 hF => ?_)
  refine lv_if_eq (tgt := 14) X.1 X.2.1 dX1_signOf_9 (by decide) (fun c4 => ?_) (fun c4 => ?_)
  · have hF := ab_pos c4 hF
    refine ab_aload_n X dX1_signOf_14 rfl (lv_at hl 0 rfl) ?_
    refine ab_getR X S hF fi_1_13 lf_X1_51 dX1_signOf_15 (fun x5 hF => ?_)
    refine ab_getR X S hF fi_3_0 lf_X1_87 dX1_signOf_18 (fun x6 hF => ?_)
    refine lv_iload_n X.1 X.2.1 dX1_signOf_21 rfl (lv_at hl 1 rfl) ?_
    refine ab_aldD X S hF dX1_signOf_22 (fun x7 hF => ?_)
    refine lv_dstore_n (i := 2) (lv' := [(2, .double x7), (0, va_rf (some this)), (1, .int p0)]) X.1 X.2.1 dX1_signOf_23 rfl hl (by decide) (by simp [ab_cat, ab_cI, ab_cJ, ab_cD, ab_cF]) (fun ls hl => ?_)
    refine lv_dload_n X.1 X.2.1 dX1_signOf_24 rfl (lv_at hl 0 rfl) ?_
    refine lv_dconst0 X.1 X.2.1 dX1_signOf_25 ?_
    refine lv_dcmp X.1 X.2.1 dX1_signOf_26 ?_
    refine lv_if_ge (tgt := 32) X.1 X.2.1 dX1_signOf_27 (by decide) (fun c8 => ?_) (fun c8 => ?_)
    · have hF := ab_pos c8 hF
      refine lv_dload_n X.1 X.2.1 dX1_signOf_32 rfl (lv_at hl 0 rfl) ?_
      refine lv_dconst0 X.1 X.2.1 dX1_signOf_33 ?_
      refine lv_dcmp X.1 X.2.1 dX1_signOf_34 ?_
      refine lv_if_le (tgt := 42) X.1 X.2.1 dX1_signOf_35 (by decide) (fun c9 => ?_) (fun c9 => ?_)
      · have hF := ab_pos c9 hF
        refine lv_iconst (v := 0) X.1 X.2.1 dX1_signOf_42 (by decide) ?_
        exact w_X1_signOf_43 X hr  S (lv_sub hl [] rfl) hF
      · have hF := ab_neg c9 hF
        refine lv_iconst (v := 1) X.1 X.2.1 dX1_signOf_38 (by decide) ?_
        refine lv_goto (tgt := 43) X.1 X.2.1 dX1_signOf_39 (by decide) ?_
        exact w_X1_signOf_43 X hr  S (lv_sub hl [] rfl) hF
    · have hF := ab_neg c8 hF
      refine lv_iconst (v := (-1)) X.1 X.2.1 dX1_signOf_30 (by decide) ?_
      exact ab_iret X S hr hF dX1_signOf_31
  · have hF := ab_neg c4 hF
    refine lv_iconst (v := 2) X.1 X.2.1 dX1_signOf_12 (by decide) ?_
    exact ab_iret X S hr hF dX1_signOf_13
def f_X2_init (this : Nat) (h : Hp) : Option (Unit × Hp) :=
  (putD h (some this) 2 0 9218868437227405311).bind fun h1 =>
  some ((), h1)
theorem mi_X2_init : ab_MI yX2_init cX2_init 1 none 0 := ⟨lc_yX2_init, lz_RX2, by decide, by decide, by decide +kernel⟩
set_option maxHeartbeats 4000000 in
set_option maxRecDepth 100000 in
theorem c_X2_init (l : Launch) (D : va_G) (cA : Nat → ClassId) (sz : Nat) {this : Nat} {h hh : Hp}  (hF : f_X2_init this h = some ((), hh)) : ab_C l D cA sz yX2_init cX2_init 1 none 1 0 0 [.ref this] h none hh := by
  refine Met.ofW (cc := cX2_init) (maxL := 1) (ret := none) (by decide) rfl ?_
  intro p e s m args below meth c s₁ B hml hv
  obtain ⟨rfl, hT, hR⟩ := hv
  have X : ab_X p s m _ meth c cX2_init 1 RX2 D cA sz := (ab_enter B hml hT hR).1
  have S := (ab_enter B hml hT hR).2
  have hr := B.returns
  obtain ⟨ls, hls, hl⟩ := ab_entry m [.ref this] 1 (lv := [(0, .ref this)]) (by simp [lg_sl, ab_cat, ab_cI, ab_cJ, ab_cD, ab_cF, ab_cA]) (by simp [lv_args, ab_cat, ab_cI, ab_cJ, ab_cD, ab_cF, ab_cA])
  rw [hls]
  have hl : lv_has ls 1 [(0, va_rf (some this))] := hl
  have hin : meth.name = "<init>" := (name_of_methodNamed B.named B.method).1
  unfold f_X2_init at hF
  show W p l e (ab_rm 1 0 0) s m _ below meth c s.heap [] 0 0 _ _
  refine ab_aload_n X dX2_init_0 rfl (lv_at hl 0 rfl) ?_
  refine ab_objInit X lm_X2_1 hl.1 (by decide) (by simp [ab_cat, ab_cI, ab_cJ, ab_cD, ab_cF]) dX2_init_1 ?_
  refine ab_aload_n X dX2_init_4 rfl (lv_at hl 0 rfl) ?_
  refine lv_ldc2d (v := 9218868437227405311) X.1 X.2.1 X.2.2.2.1 (X.2.2.2.2.1 _ ld_X2_7) dX2_init_5 ?_
  refine ab_putD X S hF fi_2_0 ci_2 (Or.inr ⟨rfl, hin, rfl⟩) rfl lf_X2_9 dX2_init_8 (fun h1 H1 locs1 hF S => ?_)
  exact ab_vret X S hr hF dX2_init_11
def f_X2_begin (this : Nat) (h : Hp) : Option (Unit × Hp) :=
  (putZ h (some this) 2 1 0).bind fun h1 =>
  some ((), h1)
theorem mi_X2_begin : ab_MI yX2_begin cX2_begin 1 none 0 := ⟨lc_yX2_begin, lz_RX2, by decide, by decide, by decide +kernel⟩
set_option maxHeartbeats 4000000 in
set_option maxRecDepth 100000 in
theorem c_X2_begin (l : Launch) (D : va_G) (cA : Nat → ClassId) (sz : Nat) {this : Nat} {h hh : Hp}  (hF : f_X2_begin this h = some ((), hh)) : ab_C l D cA sz yX2_begin cX2_begin 1 none 0 0 0 [.ref this] h none hh := by
  refine Met.ofW (cc := cX2_begin) (maxL := 1) (ret := none) (by decide) rfl ?_
  intro p e s m args below meth c s₁ B hml hv
  obtain ⟨rfl, hT, hR⟩ := hv
  have X : ab_X p s m _ meth c cX2_begin 1 RX2 D cA sz := (ab_enter B hml hT hR).1
  have S := (ab_enter B hml hT hR).2
  have hr := B.returns
  obtain ⟨ls, hls, hl⟩ := ab_entry m [.ref this] 1 (lv := [(0, .ref this)]) (by simp [lg_sl, ab_cat, ab_cI, ab_cJ, ab_cD, ab_cF, ab_cA]) (by simp [lv_args, ab_cat, ab_cI, ab_cJ, ab_cD, ab_cF, ab_cA])
  rw [hls]
  have hl : lv_has ls 1 [(0, va_rf (some this))] := hl
  unfold f_X2_begin at hF
  show W p l e (ab_rm 0 0 0) s m _ below meth c s.heap [] 0 0 _ _
  refine ab_aload_n X dX2_begin_0 rfl (lv_at hl 0 rfl) ?_
  refine lv_iconst (v := 0) X.1 X.2.1 dX2_begin_1 (by decide) ?_
  refine ab_putZ X S hF fi_2_1 ci_2 (Or.inl rfl) rfl lf_X2_15 dX2_begin_2 (fun h1 H1 locs1 hF S => ?_)
  exact ab_vret X S hr hF dX2_begin_5
def f_X2_read_22  (v1 : Option Nat) (v2 : Int32) (u0 : Int32) (u1 : Option Nat) (h : Hp) : Option (UInt64 × Hp) :=
  (putZ h u1 2 1 u0).bind fun h1 =>
  (getR h1 v1 3 0).bind fun x2 =>
  (aldD h1 x2 v2).bind fun x3 =>
  some (x3, h1)
set_option maxHeartbeats 4000000 in
set_option maxRecDepth 100000 in
theorem w_X2_read_22 {p : Program} {l : Launch} {e : Env} {s : State} {m : MethodId} {args : Array Value} {below : List Frame} {meth : Method} {c : Code} {D : va_G} {cA : Nat → ClassId} {sz : Nat} {rr : UInt64} {hh : Hp}  (X : ab_X p s m args meth c cX2_read 3 RX2 D cA sz) (hr : meth.sig.returnType = (some .double))  {H : Heap} {locs : List Loc} {ls : Array Slot} {v1 : Option Nat} {v2 : Int32} {u0 : Int32} {u1 : Option Nat} {h : Hp} (S : ab_H D cA sz h s H locs) (hl : lv_has ls 3 [(1, va_rf v1), (2, .int v2)]) (hF : f_X2_read_22 v1 v2 u0 u1 h = some (rr, hh)) : W p l e (ab_rm 0 0 0) s m args below meth c H locs 0 0 (MQ below (ab_Q D cA sz (some (.double rr)) hh) args s 0 0 (fun q => sz ≤ q)) (F0 m 22 ls [.int u0, va_rf u1]) := by
  unfold f_X2_read_22 at hF
  refine ab_putZ X S hF fi_2_1 ci_2 (Or.inl rfl) rfl lf_X2_15 dX2_read_22 (fun h1 H1 locs1 hF S => ?_)
  refine ab_aload_n X dX2_read_25 rfl (lv_at hl 0 rfl) ?_
  refine ab_getR X S hF fi_3_0 lf_X2_24 dX2_read_26 (fun x2 hF => ?_)
  refine lv_iload_n X.1 X.2.1 dX2_read_29 rfl (lv_at hl 1 rfl) ?_
  refine ab_aldD X S hF dX2_read_30 (fun x3 hF => ?_)
  exact ab_dret X S hr hF dX2_read_31
def f_X2_read_17  (v1 : Option Nat) (v2 : Int32) (u0 : Option Nat) (h : Hp) : Option (UInt64 × Hp) :=
  f_X2_read_22 v1 v2 1 u0 h
set_option maxHeartbeats 4000000 in
set_option maxRecDepth 100000 in
theorem w_X2_read_17 {p : Program} {l : Launch} {e : Env} {s : State} {m : MethodId} {args : Array Value} {below : List Frame} {meth : Method} {c : Code} {D : va_G} {cA : Nat → ClassId} {sz : Nat} {rr : UInt64} {hh : Hp}  (X : ab_X p s m args meth c cX2_read 3 RX2 D cA sz) (hr : meth.sig.returnType = (some .double))  {H : Heap} {locs : List Loc} {ls : Array Slot} {v1 : Option Nat} {v2 : Int32} {u0 : Option Nat} {h : Hp} (S : ab_H D cA sz h s H locs) (hl : lv_has ls 3 [(1, va_rf v1), (2, .int v2)]) (hF : f_X2_read_17 v1 v2 u0 h = some (rr, hh)) : W p l e (ab_rm 0 0 0) s m args below meth c H locs 0 0 (MQ below (ab_Q D cA sz (some (.double rr)) hh) args s 0 0 (fun q => sz ≤ q)) (F0 m 17 ls [va_rf u0]) := by
  unfold f_X2_read_17 at hF
  refine lv_iconst (v := 1) X.1 X.2.1 dX2_read_17 (by decide) ?_
  refine lv_goto (tgt := 22) X.1 X.2.1 dX2_read_18 (by decide) ?_
  exact w_X2_read_22 X hr  S (lv_sub hl [0, 1] rfl) hF
def f_X2_read (this : Nat) (p0 : Option Nat) (p1 : Int32) (h : Hp) : Option (UInt64 × Hp) :=
  (getI h (some this) 2 1).bind fun x1 =>
  if ¬ x1 = 0 then
    f_X2_read_17 p0 p1 (some this) h
  else
    (getR h p0 3 1).bind fun x3 =>
    (aldI h x3 12 p1).bind fun x4 =>
    if x4 = 0 then
      f_X2_read_22 p0 p1 0 (some this) h
    else
      f_X2_read_17 p0 p1 (some this) h
theorem mi_X2_read : ab_MI yX2_read cX2_read 3 (some .double) 2 := ⟨lc_yX2_read, lz_RX2, by decide, by decide, by decide +kernel⟩
set_option maxHeartbeats 4000000 in
set_option maxRecDepth 100000 in
theorem c_X2_read (l : Launch) (D : va_G) (cA : Nat → ClassId) (sz : Nat) {this : Nat} {p0 : Option Nat} {p1 : Int32} {h hh : Hp} {rr : UInt64} (hF : f_X2_read this p0 p1 h = some (rr, hh)) : ab_C l D cA sz yX2_read cX2_read 3 (some .double) 0 0 0 [.ref this, va_rf p0, .int p1] h (some (.double rr)) hh := by
  refine Met.ofW (cc := cX2_read) (maxL := 3) (ret := (some .double)) (by decide) rfl ?_
  intro p e s m args below meth c s₁ B hml hv
  obtain ⟨rfl, hT, hR⟩ := hv
  have X : ab_X p s m _ meth c cX2_read 3 RX2 D cA sz := (ab_enter B hml hT hR).1
  have S := (ab_enter B hml hT hR).2
  have hr := B.returns
  obtain ⟨ls, hls, hl⟩ := ab_entry m [.ref this, va_rf p0, .int p1] 3 (lv := [(0, .ref this), (1, va_rf p0), (2, .int p1)]) (by simp [lg_sl, ab_cat, ab_cI, ab_cJ, ab_cD, ab_cF, ab_cA]) (by simp [lv_args, ab_cat, ab_cI, ab_cJ, ab_cD, ab_cF, ab_cA])
  rw [hls]
  have hl : lv_has ls 3 [(0, va_rf (some this)), (1, va_rf p0), (2, .int p1)] := hl
  unfold f_X2_read at hF
  show W p l e (ab_rm 0 0 0) s m _ below meth c s.heap [] 0 0 _ _
  refine ab_aload_n X dX2_read_0 rfl (lv_at hl 0 rfl) ?_
  refine ab_aload_n X dX2_read_1 rfl (lv_at hl 0 rfl) ?_
  refine ab_getI X S hF fi_2_1 lf_X2_15 dX2_read_2 (fun x1 hF => ?_)
  refine lv_if_ne (tgt := 17) X.1 X.2.1 dX2_read_5 (by decide) (fun c2 => ?_) (fun c2 => ?_)
  · have hF := ab_pos c2 hF
    exact w_X2_read_17 X hr  S (lv_sub hl [1, 2] rfl) hF
  · have hF := ab_neg (fun q => q c2) hF
    refine ab_aload_n X dX2_read_8 rfl (lv_at hl 1 rfl) ?_
    refine ab_getR X S hF fi_3_1 lf_X2_19 dX2_read_9 (fun x3 hF => ?_)
    refine lv_iload_n X.1 X.2.1 dX2_read_12 rfl (lv_at hl 2 rfl) ?_
    refine ab_aldZ X S hF dX2_read_13 (fun x4 hF => ?_)
    refine lv_if_eq (tgt := 21) X.1 X.2.1 dX2_read_14 (by decide) (fun c5 => ?_) (fun c5 => ?_)
    · have hF := ab_pos c5 hF
      refine lv_iconst (v := 0) X.1 X.2.1 dX2_read_21 (by decide) ?_
      exact w_X2_read_22 X hr  S (lv_sub hl [1, 2] rfl) hF
    · have hF := ab_neg c5 hF
      exact w_X2_read_17 X hr  S (lv_sub hl [1, 2] rfl) hF
def f_X2_sum_45  (v1 : UInt64) (v3 : UInt64) (h : Hp) : Option (UInt64 × Hp) :=
  (fop (FP.dadd v1 v3)).bind fun x1 =>
  some (x1, h)
set_option maxHeartbeats 4000000 in
set_option maxRecDepth 100000 in
theorem w_X2_sum_45 {p : Program} {l : Launch} {e : Env} {s : State} {m : MethodId} {args : Array Value} {below : List Frame} {meth : Method} {c : Code} {D : va_G} {cA : Nat → ClassId} {sz : Nat} {rr : UInt64} {hh : Hp}  (X : ab_X p s m args meth c cX2_sum 5 RX2 D cA sz) (hr : meth.sig.returnType = (some .double))  {H : Heap} {locs : List Loc} {ls : Array Slot} {v1 : UInt64} {v3 : UInt64} {h : Hp} (S : ab_H D cA sz h s H locs) (hl : lv_has ls 5 [(1, .double v1), (3, .double v3)]) (hF : f_X2_sum_45 v1 v3 h = some (rr, hh)) : W p l e (ab_rm 0 0 0) s m args below meth c H locs 0 0 (MQ below (ab_Q D cA sz (some (.double rr)) hh) args s 0 0 (fun q => sz ≤ q)) (F0 m 45 ls []) := by
  unfold f_X2_sum_45 at hF
  refine lv_dload_n X.1 X.2.1 dX2_sum_45 rfl (lv_at hl 0 rfl) ?_
  refine lv_dload_n X.1 X.2.1 dX2_sum_46 rfl (lv_at hl 1 rfl) ?_
  obtain ⟨x1, ev, ne, hF⟩ := ab_fopx hF
  refine lv_dadd X.1 X.2.1 dX2_sum_47 ne ?_
  rw [ev]
  exact ab_dret X S hr hF dX2_sum_48
def f_X2_sum_38  (v0 : Option Nat) (h : Hp) : Option (UInt64 × Hp) :=
  (putZ h v0 2 1 1).bind fun h1 =>
  some (FP.dconst0, h1)
set_option maxHeartbeats 4000000 in
set_option maxRecDepth 100000 in
theorem w_X2_sum_38 {p : Program} {l : Launch} {e : Env} {s : State} {m : MethodId} {args : Array Value} {below : List Frame} {meth : Method} {c : Code} {D : va_G} {cA : Nat → ClassId} {sz : Nat} {rr : UInt64} {hh : Hp}  (X : ab_X p s m args meth c cX2_sum 5 RX2 D cA sz) (hr : meth.sig.returnType = (some .double))  {H : Heap} {locs : List Loc} {ls : Array Slot} {v0 : Option Nat} {h : Hp} (S : ab_H D cA sz h s H locs) (hl : lv_has ls 5 [(0, va_rf v0)]) (hF : f_X2_sum_38 v0 h = some (rr, hh)) : W p l e (ab_rm 0 0 0) s m args below meth c H locs 0 0 (MQ below (ab_Q D cA sz (some (.double rr)) hh) args s 0 0 (fun q => sz ≤ q)) (F0 m 38 ls []) := by
  unfold f_X2_sum_38 at hF
  refine ab_aload_n X dX2_sum_38 rfl (lv_at hl 0 rfl) ?_
  refine lv_iconst (v := 1) X.1 X.2.1 dX2_sum_39 (by decide) ?_
  refine ab_putZ X S hF fi_2_1 ci_2 (Or.inl rfl) rfl lf_X2_15 dX2_sum_40 (fun h1 H1 locs1 hF S => ?_)
  refine lv_dconst0 X.1 X.2.1 dX2_sum_43 ?_
  exact ab_dret X S hr hF dX2_sum_44
def f_X2_sum_19  (v0 : Option Nat) (v1 : UInt64) (v3 : UInt64) (h : Hp) : Option (UInt64 × Hp) :=
  (getD h v0 2 0).bind fun x1 =>
  if 0 ≤ (Op.cmpValue (FP.dcmp v1 (FP.dneg x1)) CmpOp.g) then
    f_X2_sum_45 v1 v3 h
  else
    (getD h v0 2 0).bind fun x3 =>
    if (Op.cmpValue (FP.dcmp v3 x3) CmpOp.l) ≤ 0 then
      f_X2_sum_45 v1 v3 h
    else
      f_X2_sum_38 v0 h
set_option maxHeartbeats 4000000 in
set_option maxRecDepth 100000 in
theorem w_X2_sum_19 {p : Program} {l : Launch} {e : Env} {s : State} {m : MethodId} {args : Array Value} {below : List Frame} {meth : Method} {c : Code} {D : va_G} {cA : Nat → ClassId} {sz : Nat} {rr : UInt64} {hh : Hp}  (X : ab_X p s m args meth c cX2_sum 5 RX2 D cA sz) (hr : meth.sig.returnType = (some .double))  {H : Heap} {locs : List Loc} {ls : Array Slot} {v0 : Option Nat} {v1 : UInt64} {v3 : UInt64} {h : Hp} (S : ab_H D cA sz h s H locs) (hl : lv_has ls 5 [(0, va_rf v0), (1, .double v1), (3, .double v3)]) (hF : f_X2_sum_19 v0 v1 v3 h = some (rr, hh)) : W p l e (ab_rm 0 0 0) s m args below meth c H locs 0 0 (MQ below (ab_Q D cA sz (some (.double rr)) hh) args s 0 0 (fun q => sz ≤ q)) (F0 m 19 ls []) := by
  unfold f_X2_sum_19 at hF
  refine lv_dload_n X.1 X.2.1 dX2_sum_19 rfl (lv_at hl 1 rfl) ?_
  refine ab_aload_n X dX2_sum_20 rfl (lv_at hl 0 rfl) ?_
  refine ab_getD X S hF fi_2_0 lf_X2_9 dX2_sum_21 (fun x1 hF => ?_)
  refine lv_dneg X.1 X.2.1 dX2_sum_24 ?_
  refine lv_dcmp X.1 X.2.1 dX2_sum_25 ?_
  refine lv_if_ge (tgt := 45) X.1 X.2.1 dX2_sum_26 (by decide) (fun c2 => ?_) (fun c2 => ?_)
  · have hF := ab_pos c2 hF
    exact w_X2_sum_45 X hr  S (lv_sub hl [1, 2] rfl) hF
  · have hF := ab_neg c2 hF
    refine lv_dload_n X.1 X.2.1 dX2_sum_29 rfl (lv_at hl 2 rfl) ?_
    refine ab_aload_n X dX2_sum_30 rfl (lv_at hl 0 rfl) ?_
    refine ab_getD X S hF fi_2_0 lf_X2_9 dX2_sum_31 (fun x3 hF => ?_)
    refine lv_dcmp X.1 X.2.1 dX2_sum_34 ?_
    refine lv_if_le (tgt := 45) X.1 X.2.1 dX2_sum_35 (by decide) (fun c4 => ?_) (fun c4 => ?_)
    · have hF := ab_pos c4 hF
      exact w_X2_sum_45 X hr  S (lv_sub hl [1, 2] rfl) hF
    · have hF := ab_neg c4 hF
      exact w_X2_sum_38 X hr  S (lv_sub hl [0] rfl) hF
def f_X2_sum (this : Nat) (p0 : UInt64) (p1 : UInt64) (h : Hp) : Option (UInt64 × Hp) :=
  (getD h (some this) 2 0).bind fun x1 =>
  if (Op.cmpValue (FP.dcmp p0 x1) CmpOp.l) ≤ 0 then
    f_X2_sum_19 (some this) p0 p1 h
  else
    (getD h (some this) 2 0).bind fun x3 =>
    if (Op.cmpValue (FP.dcmp p1 (FP.dneg x3)) CmpOp.g) < 0 then
      f_X2_sum_38 (some this) h
    else
      f_X2_sum_19 (some this) p0 p1 h
theorem mi_X2_sum : ab_MI yX2_sum cX2_sum 5 (some .double) 2 := ⟨lc_yX2_sum, lz_RX2, by decide, by decide, by decide +kernel⟩
set_option maxHeartbeats 4000000 in
set_option maxRecDepth 100000 in
theorem c_X2_sum (l : Launch) (D : va_G) (cA : Nat → ClassId) (sz : Nat) {this : Nat} {p0 : UInt64} {p1 : UInt64} {h hh : Hp} {rr : UInt64} (hF : f_X2_sum this p0 p1 h = some (rr, hh)) : ab_C l D cA sz yX2_sum cX2_sum 5 (some .double) 0 0 0 [.ref this, .double p0, .double p1] h (some (.double rr)) hh := by
  refine Met.ofW (cc := cX2_sum) (maxL := 5) (ret := (some .double)) (by decide) rfl ?_
  intro p e s m args below meth c s₁ B hml hv
  obtain ⟨rfl, hT, hR⟩ := hv
  have X : ab_X p s m _ meth c cX2_sum 5 RX2 D cA sz := (ab_enter B hml hT hR).1
  have S := (ab_enter B hml hT hR).2
  have hr := B.returns
  obtain ⟨ls, hls, hl⟩ := ab_entry m [.ref this, .double p0, .double p1] 5 (lv := [(0, .ref this), (1, .double p0), (3, .double p1)]) (by simp [lg_sl, ab_cat, ab_cI, ab_cJ, ab_cD, ab_cF, ab_cA]) (by simp [lv_args, ab_cat, ab_cI, ab_cJ, ab_cD, ab_cF, ab_cA])
  rw [hls]
  have hl : lv_has ls 5 [(0, va_rf (some this)), (1, .double p0), (3, .double p1)] := hl
  unfold f_X2_sum at hF
  show W p l e (ab_rm 0 0 0) s m _ below meth c s.heap [] 0 0 _ _
  refine lv_dload_n X.1 X.2.1 dX2_sum_0 rfl (lv_at hl 1 rfl) ?_
  refine ab_aload_n X dX2_sum_1 rfl (lv_at hl 0 rfl) ?_
  refine ab_getD X S hF fi_2_0 lf_X2_9 dX2_sum_2 (fun x1 hF => ?_)
  refine lv_dcmp X.1 X.2.1 dX2_sum_5 ?_
  refine lv_if_le (tgt := 19) X.1 X.2.1 dX2_sum_6 (by decide) (fun c2 => ?_) (fun c2 => ?_)
  · have hF := ab_pos c2 hF
    exact w_X2_sum_19 X hr  S (lv_sub hl [0, 1, 2] rfl) hF
  · have hF := ab_neg c2 hF
    refine lv_dload_n X.1 X.2.1 dX2_sum_9 rfl (lv_at hl 2 rfl) ?_
    refine ab_aload_n X dX2_sum_10 rfl (lv_at hl 0 rfl) ?_
    refine ab_getD X S hF fi_2_0 lf_X2_9 dX2_sum_11 (fun x3 hF => ?_)
    refine lv_dneg X.1 X.2.1 dX2_sum_14 ?_
    refine lv_dcmp X.1 X.2.1 dX2_sum_15 ?_
    refine lv_if_lt (tgt := 38) X.1 X.2.1 dX2_sum_16 (by decide) (fun c4 => ?_) (fun c4 => ?_)
    · have hF := ab_pos c4 hF
      exact w_X2_sum_38 X hr  S (lv_sub hl [0] rfl) hF
    · have hF := ab_neg c4 hF
      exact w_X2_sum_19 X hr  S (lv_sub hl [0, 1, 2] rfl) hF
def f_X2_difference_45  (v1 : UInt64) (v3 : UInt64) (h : Hp) : Option (UInt64 × Hp) :=
  (fop (FP.dsub v1 v3)).bind fun x1 =>
  some (x1, h)
set_option maxHeartbeats 4000000 in
set_option maxRecDepth 100000 in
theorem w_X2_difference_45 {p : Program} {l : Launch} {e : Env} {s : State} {m : MethodId} {args : Array Value} {below : List Frame} {meth : Method} {c : Code} {D : va_G} {cA : Nat → ClassId} {sz : Nat} {rr : UInt64} {hh : Hp}  (X : ab_X p s m args meth c cX2_difference 5 RX2 D cA sz) (hr : meth.sig.returnType = (some .double))  {H : Heap} {locs : List Loc} {ls : Array Slot} {v1 : UInt64} {v3 : UInt64} {h : Hp} (S : ab_H D cA sz h s H locs) (hl : lv_has ls 5 [(1, .double v1), (3, .double v3)]) (hF : f_X2_difference_45 v1 v3 h = some (rr, hh)) : W p l e (ab_rm 0 0 0) s m args below meth c H locs 0 0 (MQ below (ab_Q D cA sz (some (.double rr)) hh) args s 0 0 (fun q => sz ≤ q)) (F0 m 45 ls []) := by
  unfold f_X2_difference_45 at hF
  refine lv_dload_n X.1 X.2.1 dX2_difference_45 rfl (lv_at hl 0 rfl) ?_
  refine lv_dload_n X.1 X.2.1 dX2_difference_46 rfl (lv_at hl 1 rfl) ?_
  obtain ⟨x1, ev, ne, hF⟩ := ab_fopx hF
  refine lv_dsub X.1 X.2.1 dX2_difference_47 ne ?_
  rw [ev]
  exact ab_dret X S hr hF dX2_difference_48
def f_X2_difference_38  (v0 : Option Nat) (h : Hp) : Option (UInt64 × Hp) :=
  (putZ h v0 2 1 1).bind fun h1 =>
  some (FP.dconst0, h1)
set_option maxHeartbeats 4000000 in
set_option maxRecDepth 100000 in
theorem w_X2_difference_38 {p : Program} {l : Launch} {e : Env} {s : State} {m : MethodId} {args : Array Value} {below : List Frame} {meth : Method} {c : Code} {D : va_G} {cA : Nat → ClassId} {sz : Nat} {rr : UInt64} {hh : Hp}  (X : ab_X p s m args meth c cX2_difference 5 RX2 D cA sz) (hr : meth.sig.returnType = (some .double))  {H : Heap} {locs : List Loc} {ls : Array Slot} {v0 : Option Nat} {h : Hp} (S : ab_H D cA sz h s H locs) (hl : lv_has ls 5 [(0, va_rf v0)]) (hF : f_X2_difference_38 v0 h = some (rr, hh)) : W p l e (ab_rm 0 0 0) s m args below meth c H locs 0 0 (MQ below (ab_Q D cA sz (some (.double rr)) hh) args s 0 0 (fun q => sz ≤ q)) (F0 m 38 ls []) := by
  unfold f_X2_difference_38 at hF
  refine ab_aload_n X dX2_difference_38 rfl (lv_at hl 0 rfl) ?_
  refine lv_iconst (v := 1) X.1 X.2.1 dX2_difference_39 (by decide) ?_
  refine ab_putZ X S hF fi_2_1 ci_2 (Or.inl rfl) rfl lf_X2_15 dX2_difference_40 (fun h1 H1 locs1 hF S => ?_)
  refine lv_dconst0 X.1 X.2.1 dX2_difference_43 ?_
  exact ab_dret X S hr hF dX2_difference_44
def f_X2_difference_18  (v0 : Option Nat) (v1 : UInt64) (v3 : UInt64) (h : Hp) : Option (UInt64 × Hp) :=
  (getD h v0 2 0).bind fun x1 =>
  if 0 ≤ (Op.cmpValue (FP.dcmp v1 (FP.dneg x1)) CmpOp.g) then
    f_X2_difference_45 v1 v3 h
  else
    (getD h v0 2 0).bind fun x3 =>
    if 0 ≤ (Op.cmpValue (FP.dcmp v3 (FP.dneg x3)) CmpOp.g) then
      f_X2_difference_45 v1 v3 h
    else
      f_X2_difference_38 v0 h
set_option maxHeartbeats 4000000 in
set_option maxRecDepth 100000 in
theorem w_X2_difference_18 {p : Program} {l : Launch} {e : Env} {s : State} {m : MethodId} {args : Array Value} {below : List Frame} {meth : Method} {c : Code} {D : va_G} {cA : Nat → ClassId} {sz : Nat} {rr : UInt64} {hh : Hp}  (X : ab_X p s m args meth c cX2_difference 5 RX2 D cA sz) (hr : meth.sig.returnType = (some .double))  {H : Heap} {locs : List Loc} {ls : Array Slot} {v0 : Option Nat} {v1 : UInt64} {v3 : UInt64} {h : Hp} (S : ab_H D cA sz h s H locs) (hl : lv_has ls 5 [(0, va_rf v0), (1, .double v1), (3, .double v3)]) (hF : f_X2_difference_18 v0 v1 v3 h = some (rr, hh)) : W p l e (ab_rm 0 0 0) s m args below meth c H locs 0 0 (MQ below (ab_Q D cA sz (some (.double rr)) hh) args s 0 0 (fun q => sz ≤ q)) (F0 m 18 ls []) := by
  unfold f_X2_difference_18 at hF
  refine lv_dload_n X.1 X.2.1 dX2_difference_18 rfl (lv_at hl 1 rfl) ?_
  refine ab_aload_n X dX2_difference_19 rfl (lv_at hl 0 rfl) ?_
  refine ab_getD X S hF fi_2_0 lf_X2_9 dX2_difference_20 (fun x1 hF => ?_)
  refine lv_dneg X.1 X.2.1 dX2_difference_23 ?_
  refine lv_dcmp X.1 X.2.1 dX2_difference_24 ?_
  refine lv_if_ge (tgt := 45) X.1 X.2.1 dX2_difference_25 (by decide) (fun c2 => ?_) (fun c2 => ?_)
  · have hF := ab_pos c2 hF
    exact w_X2_difference_45 X hr  S (lv_sub hl [1, 2] rfl) hF
  · have hF := ab_neg c2 hF
    refine lv_dload_n X.1 X.2.1 dX2_difference_28 rfl (lv_at hl 2 rfl) ?_
    refine ab_aload_n X dX2_difference_29 rfl (lv_at hl 0 rfl) ?_
    refine ab_getD X S hF fi_2_0 lf_X2_9 dX2_difference_30 (fun x3 hF => ?_)
    refine lv_dneg X.1 X.2.1 dX2_difference_33 ?_
    refine lv_dcmp X.1 X.2.1 dX2_difference_34 ?_
    refine lv_if_ge (tgt := 45) X.1 X.2.1 dX2_difference_35 (by decide) (fun c4 => ?_) (fun c4 => ?_)
    · have hF := ab_pos c4 hF
      exact w_X2_difference_45 X hr  S (lv_sub hl [1, 2] rfl) hF
    · have hF := ab_neg c4 hF
      exact w_X2_difference_38 X hr  S (lv_sub hl [0] rfl) hF
def f_X2_difference (this : Nat) (p0 : UInt64) (p1 : UInt64) (h : Hp) : Option (UInt64 × Hp) :=
  (getD h (some this) 2 0).bind fun x1 =>
  if (Op.cmpValue (FP.dcmp p0 x1) CmpOp.l) ≤ 0 then
    f_X2_difference_18 (some this) p0 p1 h
  else
    (getD h (some this) 2 0).bind fun x3 =>
    if 0 < (Op.cmpValue (FP.dcmp p1 x3) CmpOp.l) then
      f_X2_difference_38 (some this) h
    else
      f_X2_difference_18 (some this) p0 p1 h
theorem mi_X2_difference : ab_MI yX2_difference cX2_difference 5 (some .double) 2 := ⟨lc_yX2_difference, lz_RX2, by decide, by decide, by decide +kernel⟩
set_option maxHeartbeats 4000000 in
set_option maxRecDepth 100000 in
theorem c_X2_difference (l : Launch) (D : va_G) (cA : Nat → ClassId) (sz : Nat) {this : Nat} {p0 : UInt64} {p1 : UInt64} {h hh : Hp} {rr : UInt64} (hF : f_X2_difference this p0 p1 h = some (rr, hh)) : ab_C l D cA sz yX2_difference cX2_difference 5 (some .double) 0 0 0 [.ref this, .double p0, .double p1] h (some (.double rr)) hh := by
  refine Met.ofW (cc := cX2_difference) (maxL := 5) (ret := (some .double)) (by decide) rfl ?_
  intro p e s m args below meth c s₁ B hml hv
  obtain ⟨rfl, hT, hR⟩ := hv
  have X : ab_X p s m _ meth c cX2_difference 5 RX2 D cA sz := (ab_enter B hml hT hR).1
  have S := (ab_enter B hml hT hR).2
  have hr := B.returns
  obtain ⟨ls, hls, hl⟩ := ab_entry m [.ref this, .double p0, .double p1] 5 (lv := [(0, .ref this), (1, .double p0), (3, .double p1)]) (by simp [lg_sl, ab_cat, ab_cI, ab_cJ, ab_cD, ab_cF, ab_cA]) (by simp [lv_args, ab_cat, ab_cI, ab_cJ, ab_cD, ab_cF, ab_cA])
  rw [hls]
  have hl : lv_has ls 5 [(0, va_rf (some this)), (1, .double p0), (3, .double p1)] := hl
  unfold f_X2_difference at hF
  show W p l e (ab_rm 0 0 0) s m _ below meth c s.heap [] 0 0 _ _
  refine lv_dload_n X.1 X.2.1 dX2_difference_0 rfl (lv_at hl 1 rfl) ?_
  refine ab_aload_n X dX2_difference_1 rfl (lv_at hl 0 rfl) ?_
  refine ab_getD X S hF fi_2_0 lf_X2_9 dX2_difference_2 (fun x1 hF => ?_)
  refine lv_dcmp X.1 X.2.1 dX2_difference_5 ?_
  refine lv_if_le (tgt := 18) X.1 X.2.1 dX2_difference_6 (by decide) (fun c2 => ?_) (fun c2 => ?_)
  · have hF := ab_pos c2 hF
    exact w_X2_difference_18 X hr  S (lv_sub hl [0, 1, 2] rfl) hF
  · have hF := ab_neg c2 hF
    refine lv_dload_n X.1 X.2.1 dX2_difference_9 rfl (lv_at hl 2 rfl) ?_
    refine ab_aload_n X dX2_difference_10 rfl (lv_at hl 0 rfl) ?_
    refine ab_getD X S hF fi_2_0 lf_X2_9 dX2_difference_11 (fun x3 hF => ?_)
    refine lv_dcmp X.1 X.2.1 dX2_difference_14 ?_
    refine lv_if_gt (tgt := 38) X.1 X.2.1 dX2_difference_15 (by decide) (fun c4 => ?_) (fun c4 => ?_)
    · have hF := ab_pos c4 hF
      exact w_X2_difference_38 X hr  S (lv_sub hl [0] rfl) hF
    · have hF := ab_neg c4 hF
      exact w_X2_difference_18 X hr  S (lv_sub hl [0, 1, 2] rfl) hF
def f_X2_product_57  (v1 : UInt64) (v3 : UInt64) (h : Hp) : Option (UInt64 × Hp) :=
  (fop (FP.dmul v1 v3)).bind fun x1 =>
  some (x1, h)
set_option maxHeartbeats 4000000 in
set_option maxRecDepth 100000 in
theorem w_X2_product_57 {p : Program} {l : Launch} {e : Env} {s : State} {m : MethodId} {args : Array Value} {below : List Frame} {meth : Method} {c : Code} {D : va_G} {cA : Nat → ClassId} {sz : Nat} {rr : UInt64} {hh : Hp}  (X : ab_X p s m args meth c cX2_product 5 RX2 D cA sz) (hr : meth.sig.returnType = (some .double))  {H : Heap} {locs : List Loc} {ls : Array Slot} {v1 : UInt64} {v3 : UInt64} {h : Hp} (S : ab_H D cA sz h s H locs) (hl : lv_has ls 5 [(1, .double v1), (3, .double v3)]) (hF : f_X2_product_57 v1 v3 h = some (rr, hh)) : W p l e (ab_rm 0 0 0) s m args below meth c H locs 0 0 (MQ below (ab_Q D cA sz (some (.double rr)) hh) args s 0 0 (fun q => sz ≤ q)) (F0 m 57 ls []) := by
  unfold f_X2_product_57 at hF
  refine lv_dload_n X.1 X.2.1 dX2_product_57 rfl (lv_at hl 0 rfl) ?_
  refine lv_dload_n X.1 X.2.1 dX2_product_58 rfl (lv_at hl 1 rfl) ?_
  obtain ⟨x1, ev, ne, hF⟩ := ab_fopx hF
  refine lv_dmul X.1 X.2.1 dX2_product_59 ne ?_
  rw [ev]
  exact ab_dret X S hr hF dX2_product_60
def f_X2_product_50  (v0 : Option Nat) (h : Hp) : Option (UInt64 × Hp) :=
  (putZ h v0 2 1 1).bind fun h1 =>
  some (FP.dconst0, h1)
set_option maxHeartbeats 4000000 in
set_option maxRecDepth 100000 in
theorem w_X2_product_50 {p : Program} {l : Launch} {e : Env} {s : State} {m : MethodId} {args : Array Value} {below : List Frame} {meth : Method} {c : Code} {D : va_G} {cA : Nat → ClassId} {sz : Nat} {rr : UInt64} {hh : Hp}  (X : ab_X p s m args meth c cX2_product 5 RX2 D cA sz) (hr : meth.sig.returnType = (some .double))  {H : Heap} {locs : List Loc} {ls : Array Slot} {v0 : Option Nat} {h : Hp} (S : ab_H D cA sz h s H locs) (hl : lv_has ls 5 [(0, va_rf v0)]) (hF : f_X2_product_50 v0 h = some (rr, hh)) : W p l e (ab_rm 0 0 0) s m args below meth c H locs 0 0 (MQ below (ab_Q D cA sz (some (.double rr)) hh) args s 0 0 (fun q => sz ≤ q)) (F0 m 50 ls []) := by
  unfold f_X2_product_50 at hF
  refine ab_aload_n X dX2_product_50 rfl (lv_at hl 0 rfl) ?_
  refine lv_iconst (v := 1) X.1 X.2.1 dX2_product_51 (by decide) ?_
  refine ab_putZ X S hF fi_2_1 ci_2 (Or.inl rfl) rfl lf_X2_15 dX2_product_52 (fun h1 H1 locs1 hF S => ?_)
  refine lv_dconst0 X.1 X.2.1 dX2_product_55 ?_
  exact ab_dret X S hr hF dX2_product_56
def f_X2_product_25  (v0 : Option Nat) (v1 : UInt64) (v3 : UInt64) (h : Hp) : Option (UInt64 × Hp) :=
  if ¬ (Op.cmpValue (FP.dcmp v3 FP.dconst0) CmpOp.l) = 0 then
    f_X2_product_57 v1 v3 h
  else
    (getD h v0 2 0).bind fun x2 =>
    if 0 < (Op.cmpValue (FP.dcmp v1 x2) CmpOp.l) then
      f_X2_product_50 v0 h
    else
      (getD h v0 2 0).bind fun x4 =>
      if 0 ≤ (Op.cmpValue (FP.dcmp v1 (FP.dneg x4)) CmpOp.g) then
        f_X2_product_57 v1 v3 h
      else
        f_X2_product_50 v0 h
set_option maxHeartbeats 4000000 in
set_option maxRecDepth 100000 in
theorem w_X2_product_25 {p : Program} {l : Launch} {e : Env} {s : State} {m : MethodId} {args : Array Value} {below : List Frame} {meth : Method} {c : Code} {D : va_G} {cA : Nat → ClassId} {sz : Nat} {rr : UInt64} {hh : Hp}  (X : ab_X p s m args meth c cX2_product 5 RX2 D cA sz) (hr : meth.sig.returnType = (some .double))  {H : Heap} {locs : List Loc} {ls : Array Slot} {v0 : Option Nat} {v1 : UInt64} {v3 : UInt64} {h : Hp} (S : ab_H D cA sz h s H locs) (hl : lv_has ls 5 [(0, va_rf v0), (1, .double v1), (3, .double v3)]) (hF : f_X2_product_25 v0 v1 v3 h = some (rr, hh)) : W p l e (ab_rm 0 0 0) s m args below meth c H locs 0 0 (MQ below (ab_Q D cA sz (some (.double rr)) hh) args s 0 0 (fun q => sz ≤ q)) (F0 m 25 ls []) := by
  unfold f_X2_product_25 at hF
  refine lv_dload_n X.1 X.2.1 dX2_product_25 rfl (lv_at hl 2 rfl) ?_
  refine lv_dconst0 X.1 X.2.1 dX2_product_26 ?_
  refine lv_dcmp X.1 X.2.1 dX2_product_27 ?_
  refine lv_if_ne (tgt := 57) X.1 X.2.1 dX2_product_28 (by decide) (fun c1 => ?_) (fun c1 => ?_)
  · have hF := ab_pos c1 hF
    exact w_X2_product_57 X hr  S (lv_sub hl [1, 2] rfl) hF
  · have hF := ab_neg (fun q => q c1) hF
    refine lv_dload_n X.1 X.2.1 dX2_product_31 rfl (lv_at hl 1 rfl) ?_
    refine ab_aload_n X dX2_product_32 rfl (lv_at hl 0 rfl) ?_
    refine ab_getD X S hF fi_2_0 lf_X2_9 dX2_product_33 (fun x2 hF => ?_)
    refine lv_dcmp X.1 X.2.1 dX2_product_36 ?_
    refine lv_if_gt (tgt := 50) X.1 X.2.1 dX2_product_37 (by decide) (fun c3 => ?_) (fun c3 => ?_)
    · have hF := ab_pos c3 hF
      exact w_X2_product_50 X hr  S (lv_sub hl [0] rfl) hF
    · have hF := ab_neg c3 hF
      refine lv_dload_n X.1 X.2.1 dX2_product_40 rfl (lv_at hl 1 rfl) ?_
      refine ab_aload_n X dX2_product_41 rfl (lv_at hl 0 rfl) ?_
      refine ab_getD X S hF fi_2_0 lf_X2_9 dX2_product_42 (fun x4 hF => ?_)
      refine lv_dneg X.1 X.2.1 dX2_product_45 ?_
      refine lv_dcmp X.1 X.2.1 dX2_product_46 ?_
      refine lv_if_ge (tgt := 57) X.1 X.2.1 dX2_product_47 (by decide) (fun c5 => ?_) (fun c5 => ?_)
      · have hF := ab_pos c5 hF
        exact w_X2_product_57 X hr  S (lv_sub hl [1, 2] rfl) hF
      · have hF := ab_neg c5 hF
        exact w_X2_product_50 X hr  S (lv_sub hl [0] rfl) hF
def f_X2_product (this : Nat) (p0 : UInt64) (p1 : UInt64) (h : Hp) : Option (UInt64 × Hp) :=
  if ¬ (Op.cmpValue (FP.dcmp p0 FP.dconst0) CmpOp.l) = 0 then
    f_X2_product_25 (some this) p0 p1 h
  else
    (getD h (some this) 2 0).bind fun x2 =>
    if 0 < (Op.cmpValue (FP.dcmp p1 x2) CmpOp.l) then
      f_X2_product_50 (some this) h
    else
      (getD h (some this) 2 0).bind fun x4 =>
      if (Op.cmpValue (FP.dcmp p1 (FP.dneg x4)) CmpOp.g) < 0 then
        f_X2_product_50 (some this) h
      else
        f_X2_product_25 (some this) p0 p1 h
theorem mi_X2_product : ab_MI yX2_product cX2_product 5 (some .double) 2 := ⟨lc_yX2_product, lz_RX2, by decide, by decide, by decide +kernel⟩
set_option maxHeartbeats 4000000 in
set_option maxRecDepth 100000 in
theorem c_X2_product (l : Launch) (D : va_G) (cA : Nat → ClassId) (sz : Nat) {this : Nat} {p0 : UInt64} {p1 : UInt64} {h hh : Hp} {rr : UInt64} (hF : f_X2_product this p0 p1 h = some (rr, hh)) : ab_C l D cA sz yX2_product cX2_product 5 (some .double) 0 0 0 [.ref this, .double p0, .double p1] h (some (.double rr)) hh := by
  refine Met.ofW (cc := cX2_product) (maxL := 5) (ret := (some .double)) (by decide) rfl ?_
  intro p e s m args below meth c s₁ B hml hv
  obtain ⟨rfl, hT, hR⟩ := hv
  have X : ab_X p s m _ meth c cX2_product 5 RX2 D cA sz := (ab_enter B hml hT hR).1
  have S := (ab_enter B hml hT hR).2
  have hr := B.returns
  obtain ⟨ls, hls, hl⟩ := ab_entry m [.ref this, .double p0, .double p1] 5 (lv := [(0, .ref this), (1, .double p0), (3, .double p1)]) (by simp [lg_sl, ab_cat, ab_cI, ab_cJ, ab_cD, ab_cF, ab_cA]) (by simp [lv_args, ab_cat, ab_cI, ab_cJ, ab_cD, ab_cF, ab_cA])
  rw [hls]
  have hl : lv_has ls 5 [(0, va_rf (some this)), (1, .double p0), (3, .double p1)] := hl
  unfold f_X2_product at hF
  show W p l e (ab_rm 0 0 0) s m _ below meth c s.heap [] 0 0 _ _
  refine lv_dload_n X.1 X.2.1 dX2_product_0 rfl (lv_at hl 1 rfl) ?_
  refine lv_dconst0 X.1 X.2.1 dX2_product_1 ?_
  refine lv_dcmp X.1 X.2.1 dX2_product_2 ?_
  refine lv_if_ne (tgt := 25) X.1 X.2.1 dX2_product_3 (by decide) (fun c1 => ?_) (fun c1 => ?_)
  · have hF := ab_pos c1 hF
    exact w_X2_product_25 X hr  S (lv_sub hl [0, 1, 2] rfl) hF
  · have hF := ab_neg (fun q => q c1) hF
    refine lv_dload_n X.1 X.2.1 dX2_product_6 rfl (lv_at hl 2 rfl) ?_
    refine ab_aload_n X dX2_product_7 rfl (lv_at hl 0 rfl) ?_
    refine ab_getD X S hF fi_2_0 lf_X2_9 dX2_product_8 (fun x2 hF => ?_)
    refine lv_dcmp X.1 X.2.1 dX2_product_11 ?_
    refine lv_if_gt (tgt := 50) X.1 X.2.1 dX2_product_12 (by decide) (fun c3 => ?_) (fun c3 => ?_)
    · have hF := ab_pos c3 hF
      exact w_X2_product_50 X hr  S (lv_sub hl [0] rfl) hF
    · have hF := ab_neg c3 hF
      refine lv_dload_n X.1 X.2.1 dX2_product_15 rfl (lv_at hl 2 rfl) ?_
      refine ab_aload_n X dX2_product_16 rfl (lv_at hl 0 rfl) ?_
      refine ab_getD X S hF fi_2_0 lf_X2_9 dX2_product_17 (fun x4 hF => ?_)
      refine lv_dneg X.1 X.2.1 dX2_product_20 ?_
      refine lv_dcmp X.1 X.2.1 dX2_product_21 ?_
      refine lv_if_lt (tgt := 50) X.1 X.2.1 dX2_product_22 (by decide) (fun c5 => ?_) (fun c5 => ?_)
      · have hF := ab_pos c5 hF
        exact w_X2_product_50 X hr  S (lv_sub hl [0] rfl) hF
      · have hF := ab_neg c5 hF
        exact w_X2_product_25 X hr  S (lv_sub hl [0, 1, 2] rfl) hF
def f_X2_quotient_62  (v0 : Option Nat) (h : Hp) : Option (UInt64 × Hp) :=
  (putZ h v0 2 1 1).bind fun h1 =>
  some (FP.dconst0, h1)
set_option maxHeartbeats 4000000 in
set_option maxRecDepth 100000 in
theorem w_X2_quotient_62 {p : Program} {l : Launch} {e : Env} {s : State} {m : MethodId} {args : Array Value} {below : List Frame} {meth : Method} {c : Code} {D : va_G} {cA : Nat → ClassId} {sz : Nat} {rr : UInt64} {hh : Hp}  (X : ab_X p s m args meth c cX2_quotient 6 RX2 D cA sz) (hr : meth.sig.returnType = (some .double))  {H : Heap} {locs : List Loc} {ls : Array Slot} {v0 : Option Nat} {h : Hp} (S : ab_H D cA sz h s H locs) (hl : lv_has ls 6 [(0, va_rf v0)]) (hF : f_X2_quotient_62 v0 h = some (rr, hh)) : W p l e (ab_rm 0 0 0) s m args below meth c H locs 0 0 (MQ below (ab_Q D cA sz (some (.double rr)) hh) args s 0 0 (fun q => sz ≤ q)) (F0 m 62 ls []) := by
  unfold f_X2_quotient_62 at hF
  refine ab_aload_n X dX2_quotient_62 rfl (lv_at hl 0 rfl) ?_
  refine lv_iconst (v := 1) X.1 X.2.1 dX2_quotient_63 (by decide) ?_
  refine ab_putZ X S hF fi_2_1 ci_2 (Or.inl rfl) rfl lf_X2_15 dX2_quotient_64 (fun h1 H1 locs1 hF S => ?_)
  refine lv_dconst0 X.1 X.2.1 dX2_quotient_67 ?_
  exact ab_dret X S hr hF dX2_quotient_68
def f_X2_quotient_69  (v1 : UInt64) (v3 : UInt64) (h : Hp) : Option (UInt64 × Hp) :=
  (fop (FP.ddiv v1 v3)).bind fun x1 =>
  some (x1, h)
set_option maxHeartbeats 4000000 in
set_option maxRecDepth 100000 in
theorem w_X2_quotient_69 {p : Program} {l : Launch} {e : Env} {s : State} {m : MethodId} {args : Array Value} {below : List Frame} {meth : Method} {c : Code} {D : va_G} {cA : Nat → ClassId} {sz : Nat} {rr : UInt64} {hh : Hp}  (X : ab_X p s m args meth c cX2_quotient 6 RX2 D cA sz) (hr : meth.sig.returnType = (some .double))  {H : Heap} {locs : List Loc} {ls : Array Slot} {v1 : UInt64} {v3 : UInt64} {h : Hp} (S : ab_H D cA sz h s H locs) (hl : lv_has ls 6 [(1, .double v1), (3, .double v3)]) (hF : f_X2_quotient_69 v1 v3 h = some (rr, hh)) : W p l e (ab_rm 0 0 0) s m args below meth c H locs 0 0 (MQ below (ab_Q D cA sz (some (.double rr)) hh) args s 0 0 (fun q => sz ≤ q)) (F0 m 69 ls []) := by
  unfold f_X2_quotient_69 at hF
  refine lv_dload_n X.1 X.2.1 dX2_quotient_69 rfl (lv_at hl 0 rfl) ?_
  refine lv_dload_n X.1 X.2.1 dX2_quotient_70 rfl (lv_at hl 1 rfl) ?_
  obtain ⟨x1, ev, ne, hF⟩ := ab_fopx hF
  refine lv_ddiv X.1 X.2.1 dX2_quotient_71 ne ?_
  rw [ev]
  exact ab_dret X S hr hF dX2_quotient_72
def f_X2_quotient_43  (v0 : Option Nat) (v1 : UInt64) (v3 : UInt64) (u0 : Int32) (h : Hp) : Option (UInt64 × Hp) :=
  if ¬ u0 = 0 then
    f_X2_quotient_62 v0 h
  else
    if ¬ (Op.cmpValue (FP.dcmp v1 FP.dconst0) CmpOp.l) = 0 then
      f_X2_quotient_69 v1 v3 h
    else
      if ¬ (Op.cmpValue (FP.dcmp v3 FP.dconst0) CmpOp.l) = 0 then
        f_X2_quotient_69 v1 v3 h
      else
        f_X2_quotient_62 v0 h
set_option maxHeartbeats 4000000 in
set_option maxRecDepth 100000 in
theorem w_X2_quotient_43 {p : Program} {l : Launch} {e : Env} {s : State} {m : MethodId} {args : Array Value} {below : List Frame} {meth : Method} {c : Code} {D : va_G} {cA : Nat → ClassId} {sz : Nat} {rr : UInt64} {hh : Hp}  (X : ab_X p s m args meth c cX2_quotient 6 RX2 D cA sz) (hr : meth.sig.returnType = (some .double))  {H : Heap} {locs : List Loc} {ls : Array Slot} {v0 : Option Nat} {v1 : UInt64} {v3 : UInt64} {u0 : Int32} {h : Hp} (S : ab_H D cA sz h s H locs) (hl : lv_has ls 6 [(0, va_rf v0), (1, .double v1), (3, .double v3)]) (hF : f_X2_quotient_43 v0 v1 v3 u0 h = some (rr, hh)) : W p l e (ab_rm 0 0 0) s m args below meth c H locs 0 0 (MQ below (ab_Q D cA sz (some (.double rr)) hh) args s 0 0 (fun q => sz ≤ q)) (F0 m 43 ls [.int u0]) := by
  unfold f_X2_quotient_43 at hF
  refine lv_istore (lv' := [(5, .int u0), (0, va_rf v0), (1, .double v1), (3, .double v3)]) X.1 X.2.1 dX2_quotient_43 hl (by decide) (by simp [ab_cat, ab_cI, ab_cJ, ab_cD, ab_cF]) (fun ls hl => ?_)
  refine lv_iload X.1 X.2.1 dX2_quotient_45 (lv_at hl 0 rfl) ?_
  refine lv_if_ne (tgt := 62) X.1 X.2.1 dX2_quotient_47 (by decide) (fun c1 => ?_) (fun c1 => ?_)
  · have hF := ab_pos c1 hF
    exact w_X2_quotient_62 X hr  S (lv_sub hl [1] rfl) hF
  · have hF := ab_neg (fun q => q c1) hF
    refine lv_dload_n X.1 X.2.1 dX2_quotient_50 rfl (lv_at hl 2 rfl) ?_
    refine lv_dconst0 X.1 X.2.1 dX2_quotient_51 ?_
    refine lv_dcmp X.1 X.2.1 dX2_quotient_52 ?_
    refine lv_if_ne (tgt := 69) X.1 X.2.1 dX2_quotient_53 (by decide) (fun c2 => ?_) (fun c2 => ?_)
    · have hF := ab_pos c2 hF
      exact w_X2_quotient_69 X hr  S (lv_sub hl [2, 3] rfl) hF
    · have hF := ab_neg (fun q => q c2) hF
      refine lv_dload_n X.1 X.2.1 dX2_quotient_56 rfl (lv_at hl 3 rfl) ?_
      refine lv_dconst0 X.1 X.2.1 dX2_quotient_57 ?_
      refine lv_dcmp X.1 X.2.1 dX2_quotient_58 ?_
      refine lv_if_ne (tgt := 69) X.1 X.2.1 dX2_quotient_59 (by decide) (fun c3 => ?_) (fun c3 => ?_)
      · have hF := ab_pos c3 hF
        exact w_X2_quotient_69 X hr  S (lv_sub hl [2, 3] rfl) hF
      · have hF := ab_neg (fun q => q c3) hF
        exact w_X2_quotient_62 X hr  S (lv_sub hl [1] rfl) hF
def f_X2_quotient_38  (v0 : Option Nat) (v1 : UInt64) (v3 : UInt64) (h : Hp) : Option (UInt64 × Hp) :=
  f_X2_quotient_43 v0 v1 v3 1 h
set_option maxHeartbeats 4000000 in
set_option maxRecDepth 100000 in
theorem w_X2_quotient_38 {p : Program} {l : Launch} {e : Env} {s : State} {m : MethodId} {args : Array Value} {below : List Frame} {meth : Method} {c : Code} {D : va_G} {cA : Nat → ClassId} {sz : Nat} {rr : UInt64} {hh : Hp}  (X : ab_X p s m args meth c cX2_quotient 6 RX2 D cA sz) (hr : meth.sig.returnType = (some .double))  {H : Heap} {locs : List Loc} {ls : Array Slot} {v0 : Option Nat} {v1 : UInt64} {v3 : UInt64} {h : Hp} (S : ab_H D cA sz h s H locs) (hl : lv_has ls 6 [(0, va_rf v0), (1, .double v1), (3, .double v3)]) (hF : f_X2_quotient_38 v0 v1 v3 h = some (rr, hh)) : W p l e (ab_rm 0 0 0) s m args below meth c H locs 0 0 (MQ below (ab_Q D cA sz (some (.double rr)) hh) args s 0 0 (fun q => sz ≤ q)) (F0 m 38 ls []) := by
  unfold f_X2_quotient_38 at hF
  refine lv_iconst (v := 1) X.1 X.2.1 dX2_quotient_38 (by decide) ?_
  refine lv_goto (tgt := 43) X.1 X.2.1 dX2_quotient_39 (by decide) ?_
  exact w_X2_quotient_43 X hr  S (lv_sub hl [0, 1, 2] rfl) hF
def f_X2_quotient_42  (v0 : Option Nat) (v1 : UInt64) (v3 : UInt64) (h : Hp) : Option (UInt64 × Hp) :=
  f_X2_quotient_43 v0 v1 v3 0 h
set_option maxHeartbeats 4000000 in
set_option maxRecDepth 100000 in
theorem w_X2_quotient_42 {p : Program} {l : Launch} {e : Env} {s : State} {m : MethodId} {args : Array Value} {below : List Frame} {meth : Method} {c : Code} {D : va_G} {cA : Nat → ClassId} {sz : Nat} {rr : UInt64} {hh : Hp}  (X : ab_X p s m args meth c cX2_quotient 6 RX2 D cA sz) (hr : meth.sig.returnType = (some .double))  {H : Heap} {locs : List Loc} {ls : Array Slot} {v0 : Option Nat} {v1 : UInt64} {v3 : UInt64} {h : Hp} (S : ab_H D cA sz h s H locs) (hl : lv_has ls 6 [(0, va_rf v0), (1, .double v1), (3, .double v3)]) (hF : f_X2_quotient_42 v0 v1 v3 h = some (rr, hh)) : W p l e (ab_rm 0 0 0) s m args below meth c H locs 0 0 (MQ below (ab_Q D cA sz (some (.double rr)) hh) args s 0 0 (fun q => sz ≤ q)) (F0 m 42 ls []) := by
  unfold f_X2_quotient_42 at hF
  refine lv_iconst (v := 0) X.1 X.2.1 dX2_quotient_42 (by decide) ?_
  exact w_X2_quotient_43 X hr  S (lv_sub hl [0, 1, 2] rfl) hF
def f_X2_quotient_19  (v0 : Option Nat) (v1 : UInt64) (v3 : UInt64) (h : Hp) : Option (UInt64 × Hp) :=
  (getD h v0 2 0).bind fun x1 =>
  if 0 < (Op.cmpValue (FP.dcmp v3 x1) CmpOp.l) then
    f_X2_quotient_38 v0 v1 v3 h
  else
    (getD h v0 2 0).bind fun x3 =>
    if 0 ≤ (Op.cmpValue (FP.dcmp v3 (FP.dneg x3)) CmpOp.g) then
      f_X2_quotient_42 v0 v1 v3 h
    else
      f_X2_quotient_38 v0 v1 v3 h
set_option maxHeartbeats 4000000 in
set_option maxRecDepth 100000 in
theorem w_X2_quotient_19 {p : Program} {l : Launch} {e : Env} {s : State} {m : MethodId} {args : Array Value} {below : List Frame} {meth : Method} {c : Code} {D : va_G} {cA : Nat → ClassId} {sz : Nat} {rr : UInt64} {hh : Hp}  (X : ab_X p s m args meth c cX2_quotient 6 RX2 D cA sz) (hr : meth.sig.returnType = (some .double))  {H : Heap} {locs : List Loc} {ls : Array Slot} {v0 : Option Nat} {v1 : UInt64} {v3 : UInt64} {h : Hp} (S : ab_H D cA sz h s H locs) (hl : lv_has ls 6 [(0, va_rf v0), (1, .double v1), (3, .double v3)]) (hF : f_X2_quotient_19 v0 v1 v3 h = some (rr, hh)) : W p l e (ab_rm 0 0 0) s m args below meth c H locs 0 0 (MQ below (ab_Q D cA sz (some (.double rr)) hh) args s 0 0 (fun q => sz ≤ q)) (F0 m 19 ls []) := by
  unfold f_X2_quotient_19 at hF
  refine lv_dload_n X.1 X.2.1 dX2_quotient_19 rfl (lv_at hl 2 rfl) ?_
  refine ab_aload_n X dX2_quotient_20 rfl (lv_at hl 0 rfl) ?_
  refine ab_getD X S hF fi_2_0 lf_X2_9 dX2_quotient_21 (fun x1 hF => ?_)
  refine lv_dcmp X.1 X.2.1 dX2_quotient_24 ?_
  refine lv_if_gt (tgt := 38) X.1 X.2.1 dX2_quotient_25 (by decide) (fun c2 => ?_) (fun c2 => ?_)
  · have hF := ab_pos c2 hF
    exact w_X2_quotient_38 X hr  S (lv_sub hl [0, 1, 2] rfl) hF
  · have hF := ab_neg c2 hF
    refine lv_dload_n X.1 X.2.1 dX2_quotient_28 rfl (lv_at hl 2 rfl) ?_
    refine ab_aload_n X dX2_quotient_29 rfl (lv_at hl 0 rfl) ?_
    refine ab_getD X S hF fi_2_0 lf_X2_9 dX2_quotient_30 (fun x3 hF => ?_)
    refine lv_dneg X.1 X.2.1 dX2_quotient_33 ?_
    refine lv_dcmp X.1 X.2.1 dX2_quotient_34 ?_
    refine lv_if_ge (tgt := 42) X.1 X.2.1 dX2_quotient_35 (by decide) (fun c4 => ?_) (fun c4 => ?_)
    · have hF := ab_pos c4 hF
      exact w_X2_quotient_42 X hr  S (lv_sub hl [0, 1, 2] rfl) hF
    · have hF := ab_neg c4 hF
      exact w_X2_quotient_38 X hr  S (lv_sub hl [0, 1, 2] rfl) hF
def f_X2_quotient (this : Nat) (p0 : UInt64) (p1 : UInt64) (h : Hp) : Option (UInt64 × Hp) :=
  (getD h (some this) 2 0).bind fun x1 =>
  if 0 < (Op.cmpValue (FP.dcmp p0 x1) CmpOp.l) then
    f_X2_quotient_19 (some this) p0 p1 h
  else
    (getD h (some this) 2 0).bind fun x3 =>
    if 0 ≤ (Op.cmpValue (FP.dcmp p0 (FP.dneg x3)) CmpOp.g) then
      f_X2_quotient_42 (some this) p0 p1 h
    else
      f_X2_quotient_19 (some this) p0 p1 h
theorem mi_X2_quotient : ab_MI yX2_quotient cX2_quotient 6 (some .double) 2 := ⟨lc_yX2_quotient, lz_RX2, by decide, by decide, by decide +kernel⟩
set_option maxHeartbeats 4000000 in
set_option maxRecDepth 100000 in
theorem c_X2_quotient (l : Launch) (D : va_G) (cA : Nat → ClassId) (sz : Nat) {this : Nat} {p0 : UInt64} {p1 : UInt64} {h hh : Hp} {rr : UInt64} (hF : f_X2_quotient this p0 p1 h = some (rr, hh)) : ab_C l D cA sz yX2_quotient cX2_quotient 6 (some .double) 0 0 0 [.ref this, .double p0, .double p1] h (some (.double rr)) hh := by
  refine Met.ofW (cc := cX2_quotient) (maxL := 6) (ret := (some .double)) (by decide) rfl ?_
  intro p e s m args below meth c s₁ B hml hv
  obtain ⟨rfl, hT, hR⟩ := hv
  have X : ab_X p s m _ meth c cX2_quotient 6 RX2 D cA sz := (ab_enter B hml hT hR).1
  have S := (ab_enter B hml hT hR).2
  have hr := B.returns
  obtain ⟨ls, hls, hl⟩ := ab_entry m [.ref this, .double p0, .double p1] 6 (lv := [(0, .ref this), (1, .double p0), (3, .double p1)]) (by simp [lg_sl, ab_cat, ab_cI, ab_cJ, ab_cD, ab_cF, ab_cA]) (by simp [lv_args, ab_cat, ab_cI, ab_cJ, ab_cD, ab_cF, ab_cA])
  rw [hls]
  have hl : lv_has ls 6 [(0, va_rf (some this)), (1, .double p0), (3, .double p1)] := hl
  unfold f_X2_quotient at hF
  show W p l e (ab_rm 0 0 0) s m _ below meth c s.heap [] 0 0 _ _
  refine lv_dload_n X.1 X.2.1 dX2_quotient_0 rfl (lv_at hl 1 rfl) ?_
  refine ab_aload_n X dX2_quotient_1 rfl (lv_at hl 0 rfl) ?_
  refine ab_getD X S hF fi_2_0 lf_X2_9 dX2_quotient_2 (fun x1 hF => ?_)
  refine lv_dcmp X.1 X.2.1 dX2_quotient_5 ?_
  refine lv_if_gt (tgt := 19) X.1 X.2.1 dX2_quotient_6 (by decide) (fun c2 => ?_) (fun c2 => ?_)
  · have hF := ab_pos c2 hF
    exact w_X2_quotient_19 X hr  S (lv_sub hl [0, 1, 2] rfl) hF
  · have hF := ab_neg c2 hF
    refine lv_dload_n X.1 X.2.1 dX2_quotient_9 rfl (lv_at hl 1 rfl) ?_
    refine ab_aload_n X dX2_quotient_10 rfl (lv_at hl 0 rfl) ?_
    refine ab_getD X S hF fi_2_0 lf_X2_9 dX2_quotient_11 (fun x3 hF => ?_)
    refine lv_dneg X.1 X.2.1 dX2_quotient_14 ?_
    refine lv_dcmp X.1 X.2.1 dX2_quotient_15 ?_
    refine lv_if_ge (tgt := 42) X.1 X.2.1 dX2_quotient_16 (by decide) (fun c4 => ?_) (fun c4 => ?_)
    · have hF := ab_pos c4 hF
      exact w_X2_quotient_42 X hr  S (lv_sub hl [0, 1, 2] rfl) hF
    · have hF := ab_neg c4 hF
      exact w_X2_quotient_19 X hr  S (lv_sub hl [0, 1, 2] rfl) hF
def f_X2_lesser_37  (u0 : UInt64) (h : Hp) : Option (UInt64 × Hp) :=
  some (u0, h)
set_option maxHeartbeats 4000000 in
set_option maxRecDepth 100000 in
theorem w_X2_lesser_37 {p : Program} {l : Launch} {e : Env} {s : State} {m : MethodId} {args : Array Value} {below : List Frame} {meth : Method} {c : Code} {D : va_G} {cA : Nat → ClassId} {sz : Nat} {rr : UInt64} {hh : Hp}  (X : ab_X p s m args meth c cX2_lesser 5 RX2 D cA sz) (hr : meth.sig.returnType = (some .double))  {H : Heap} {locs : List Loc} {ls : Array Slot} {u0 : UInt64} {h : Hp} (S : ab_H D cA sz h s H locs) (hl : lv_has ls 5 []) (hF : f_X2_lesser_37 u0 h = some (rr, hh)) : W p l e (ab_rm 0 0 0) s m args below meth c H locs 0 0 (MQ below (ab_Q D cA sz (some (.double rr)) hh) args s 0 0 (fun q => sz ≤ q)) (F0 m 37 ls [.double u0]) := by
  unfold f_X2_lesser_37 at hF
  exact ab_dret X S hr hF dX2_lesser_37
def f_X2_lesser_26  (v1 : UInt64) (v3 : UInt64) (h : Hp) : Option (UInt64 × Hp) :=
  if 0 < (Op.cmpValue (FP.dcmp v1 v3) CmpOp.g) then
    f_X2_lesser_37 v3 h
  else
    f_X2_lesser_37 v1 h
set_option maxHeartbeats 4000000 in
set_option maxRecDepth 100000 in
theorem w_X2_lesser_26 {p : Program} {l : Launch} {e : Env} {s : State} {m : MethodId} {args : Array Value} {below : List Frame} {meth : Method} {c : Code} {D : va_G} {cA : Nat → ClassId} {sz : Nat} {rr : UInt64} {hh : Hp}  (X : ab_X p s m args meth c cX2_lesser 5 RX2 D cA sz) (hr : meth.sig.returnType = (some .double))  {H : Heap} {locs : List Loc} {ls : Array Slot} {v1 : UInt64} {v3 : UInt64} {h : Hp} (S : ab_H D cA sz h s H locs) (hl : lv_has ls 5 [(1, .double v1), (3, .double v3)]) (hF : f_X2_lesser_26 v1 v3 h = some (rr, hh)) : W p l e (ab_rm 0 0 0) s m args below meth c H locs 0 0 (MQ below (ab_Q D cA sz (some (.double rr)) hh) args s 0 0 (fun q => sz ≤ q)) (F0 m 26 ls []) := by
  unfold f_X2_lesser_26 at hF
  refine lv_dload_n X.1 X.2.1 dX2_lesser_26 rfl (lv_at hl 0 rfl) ?_
  refine lv_dload_n X.1 X.2.1 dX2_lesser_27 rfl (lv_at hl 1 rfl) ?_
  refine lv_dcmp X.1 X.2.1 dX2_lesser_28 ?_
  refine lv_if_gt (tgt := 36) X.1 X.2.1 dX2_lesser_29 (by decide) (fun c1 => ?_) (fun c1 => ?_)
  · have hF := ab_pos c1 hF
    refine lv_dload_n X.1 X.2.1 dX2_lesser_36 rfl (lv_at hl 1 rfl) ?_
    exact w_X2_lesser_37 X hr  S (lv_sub hl [] rfl) hF
  · have hF := ab_neg c1 hF
    refine lv_dload_n X.1 X.2.1 dX2_lesser_32 rfl (lv_at hl 0 rfl) ?_
    refine lv_goto (tgt := 37) X.1 X.2.1 dX2_lesser_33 (by decide) ?_
    exact w_X2_lesser_37 X hr  S (lv_sub hl [] rfl) hF
def f_X2_lesser_25  (u0 : UInt64) (h : Hp) : Option (UInt64 × Hp) :=
  some (u0, h)
set_option maxHeartbeats 4000000 in
set_option maxRecDepth 100000 in
theorem w_X2_lesser_25 {p : Program} {l : Launch} {e : Env} {s : State} {m : MethodId} {args : Array Value} {below : List Frame} {meth : Method} {c : Code} {D : va_G} {cA : Nat → ClassId} {sz : Nat} {rr : UInt64} {hh : Hp}  (X : ab_X p s m args meth c cX2_lesser 5 RX2 D cA sz) (hr : meth.sig.returnType = (some .double))  {H : Heap} {locs : List Loc} {ls : Array Slot} {u0 : UInt64} {h : Hp} (S : ab_H D cA sz h s H locs) (hl : lv_has ls 5 []) (hF : f_X2_lesser_25 u0 h = some (rr, hh)) : W p l e (ab_rm 0 0 0) s m args below meth c H locs 0 0 (MQ below (ab_Q D cA sz (some (.double rr)) hh) args s 0 0 (fun q => sz ≤ q)) (F0 m 25 ls [.double u0]) := by
  unfold f_X2_lesser_25 at hF
  exact ab_dret X S hr hF dX2_lesser_25
def f_X2_lesser (this : Nat) (p0 : UInt64) (p1 : UInt64) (h : Hp) : Option (UInt64 × Hp) :=
  if ¬ (Op.cmpValue (FP.dcmp p0 FP.dconst0) CmpOp.l) = 0 then
    f_X2_lesser_26 p0 p1 h
  else
    if ¬ (Op.cmpValue (FP.dcmp p1 FP.dconst0) CmpOp.l) = 0 then
      f_X2_lesser_26 p0 p1 h
    else
      (fop (FP.ddiv FP.dconst1 p0)).bind fun x3 =>
      if 0 ≤ (Op.cmpValue (FP.dcmp x3 FP.dconst0) CmpOp.g) then
        f_X2_lesser_25 p1 h
      else
        f_X2_lesser_25 p0 h
theorem mi_X2_lesser : ab_MI yX2_lesser cX2_lesser 5 (some .double) 2 := ⟨lc_yX2_lesser, lz_RX2, by decide, by decide, by decide +kernel⟩
set_option maxHeartbeats 4000000 in
set_option maxRecDepth 100000 in
theorem c_X2_lesser (l : Launch) (D : va_G) (cA : Nat → ClassId) (sz : Nat) {this : Nat} {p0 : UInt64} {p1 : UInt64} {h hh : Hp} {rr : UInt64} (hF : f_X2_lesser this p0 p1 h = some (rr, hh)) : ab_C l D cA sz yX2_lesser cX2_lesser 5 (some .double) 0 0 0 [.ref this, .double p0, .double p1] h (some (.double rr)) hh := by
  refine Met.ofW (cc := cX2_lesser) (maxL := 5) (ret := (some .double)) (by decide) rfl ?_
  intro p e s m args below meth c s₁ B hml hv
  obtain ⟨rfl, hT, hR⟩ := hv
  have X : ab_X p s m _ meth c cX2_lesser 5 RX2 D cA sz := (ab_enter B hml hT hR).1
  have S := (ab_enter B hml hT hR).2
  have hr := B.returns
  obtain ⟨ls, hls, hl⟩ := ab_entry m [.ref this, .double p0, .double p1] 5 (lv := [(0, .ref this), (1, .double p0), (3, .double p1)]) (by simp [lg_sl, ab_cat, ab_cI, ab_cJ, ab_cD, ab_cF, ab_cA]) (by simp [lv_args, ab_cat, ab_cI, ab_cJ, ab_cD, ab_cF, ab_cA])
  rw [hls]
  have hl : lv_has ls 5 [(0, va_rf (some this)), (1, .double p0), (3, .double p1)] := hl
  unfold f_X2_lesser at hF
  show W p l e (ab_rm 0 0 0) s m _ below meth c s.heap [] 0 0 _ _
  refine lv_dload_n X.1 X.2.1 dX2_lesser_0 rfl (lv_at hl 1 rfl) ?_
  refine lv_dconst0 X.1 X.2.1 dX2_lesser_1 ?_
  refine lv_dcmp X.1 X.2.1 dX2_lesser_2 ?_
  refine lv_if_ne (tgt := 26) X.1 X.2.1 dX2_lesser_3 (by decide) (fun c1 => ?_) (fun c1 => ?_)
  · have hF := ab_pos c1 hF
    exact w_X2_lesser_26 X hr  S (lv_sub hl [1, 2] rfl) hF
  · have hF := ab_neg (fun q => q c1) hF
    refine lv_dload_n X.1 X.2.1 dX2_lesser_6 rfl (lv_at hl 2 rfl) ?_
    refine lv_dconst0 X.1 X.2.1 dX2_lesser_7 ?_
    refine lv_dcmp X.1 X.2.1 dX2_lesser_8 ?_
    refine lv_if_ne (tgt := 26) X.1 X.2.1 dX2_lesser_9 (by decide) (fun c2 => ?_) (fun c2 => ?_)
    · have hF := ab_pos c2 hF
      exact w_X2_lesser_26 X hr  S (lv_sub hl [1, 2] rfl) hF
    · have hF := ab_neg (fun q => q c2) hF
      refine lv_dconst1 X.1 X.2.1 dX2_lesser_12 ?_
      refine lv_dload_n X.1 X.2.1 dX2_lesser_13 rfl (lv_at hl 1 rfl) ?_
      obtain ⟨x3, ev, ne, hF⟩ := ab_fopx hF
      refine lv_ddiv X.1 X.2.1 dX2_lesser_14 ne ?_
      rw [ev]
      refine lv_dconst0 X.1 X.2.1 dX2_lesser_15 ?_
      refine lv_dcmp X.1 X.2.1 dX2_lesser_16 ?_
      refine lv_if_ge (tgt := 24) X.1 X.2.1 dX2_lesser_17 (by decide) (fun c4 => ?_) (fun c4 => ?_)
      · have hF := ab_pos c4 hF
        refine lv_dload_n X.1 X.2.1 dX2_lesser_24 rfl (lv_at hl 2 rfl) ?_
        exact w_X2_lesser_25 X hr  S (lv_sub hl [] rfl) hF
      · have hF := ab_neg c4 hF
        refine lv_dload_n X.1 X.2.1 dX2_lesser_20 rfl (lv_at hl 1 rfl) ?_
        refine lv_goto (tgt := 25) X.1 X.2.1 dX2_lesser_21 (by decide) ?_
        exact w_X2_lesser_25 X hr  S (lv_sub hl [] rfl) hF
def f_X2_greater_37  (u0 : UInt64) (h : Hp) : Option (UInt64 × Hp) :=
  some (u0, h)
set_option maxHeartbeats 4000000 in
set_option maxRecDepth 100000 in
theorem w_X2_greater_37 {p : Program} {l : Launch} {e : Env} {s : State} {m : MethodId} {args : Array Value} {below : List Frame} {meth : Method} {c : Code} {D : va_G} {cA : Nat → ClassId} {sz : Nat} {rr : UInt64} {hh : Hp}  (X : ab_X p s m args meth c cX2_greater 5 RX2 D cA sz) (hr : meth.sig.returnType = (some .double))  {H : Heap} {locs : List Loc} {ls : Array Slot} {u0 : UInt64} {h : Hp} (S : ab_H D cA sz h s H locs) (hl : lv_has ls 5 []) (hF : f_X2_greater_37 u0 h = some (rr, hh)) : W p l e (ab_rm 0 0 0) s m args below meth c H locs 0 0 (MQ below (ab_Q D cA sz (some (.double rr)) hh) args s 0 0 (fun q => sz ≤ q)) (F0 m 37 ls [.double u0]) := by
  unfold f_X2_greater_37 at hF
  exact ab_dret X S hr hF dX2_greater_37
def f_X2_greater_26  (v1 : UInt64) (v3 : UInt64) (h : Hp) : Option (UInt64 × Hp) :=
  if (Op.cmpValue (FP.dcmp v1 v3) CmpOp.l) < 0 then
    f_X2_greater_37 v3 h
  else
    f_X2_greater_37 v1 h
set_option maxHeartbeats 4000000 in
set_option maxRecDepth 100000 in
theorem w_X2_greater_26 {p : Program} {l : Launch} {e : Env} {s : State} {m : MethodId} {args : Array Value} {below : List Frame} {meth : Method} {c : Code} {D : va_G} {cA : Nat → ClassId} {sz : Nat} {rr : UInt64} {hh : Hp}  (X : ab_X p s m args meth c cX2_greater 5 RX2 D cA sz) (hr : meth.sig.returnType = (some .double))  {H : Heap} {locs : List Loc} {ls : Array Slot} {v1 : UInt64} {v3 : UInt64} {h : Hp} (S : ab_H D cA sz h s H locs) (hl : lv_has ls 5 [(1, .double v1), (3, .double v3)]) (hF : f_X2_greater_26 v1 v3 h = some (rr, hh)) : W p l e (ab_rm 0 0 0) s m args below meth c H locs 0 0 (MQ below (ab_Q D cA sz (some (.double rr)) hh) args s 0 0 (fun q => sz ≤ q)) (F0 m 26 ls []) := by
  unfold f_X2_greater_26 at hF
  refine lv_dload_n X.1 X.2.1 dX2_greater_26 rfl (lv_at hl 0 rfl) ?_
  refine lv_dload_n X.1 X.2.1 dX2_greater_27 rfl (lv_at hl 1 rfl) ?_
  refine lv_dcmp X.1 X.2.1 dX2_greater_28 ?_
  refine lv_if_lt (tgt := 36) X.1 X.2.1 dX2_greater_29 (by decide) (fun c1 => ?_) (fun c1 => ?_)
  · have hF := ab_pos c1 hF
    refine lv_dload_n X.1 X.2.1 dX2_greater_36 rfl (lv_at hl 1 rfl) ?_
    exact w_X2_greater_37 X hr  S (lv_sub hl [] rfl) hF
  · have hF := ab_neg c1 hF
    refine lv_dload_n X.1 X.2.1 dX2_greater_32 rfl (lv_at hl 0 rfl) ?_
    refine lv_goto (tgt := 37) X.1 X.2.1 dX2_greater_33 (by decide) ?_
    exact w_X2_greater_37 X hr  S (lv_sub hl [] rfl) hF
def f_X2_greater_25  (u0 : UInt64) (h : Hp) : Option (UInt64 × Hp) :=
  some (u0, h)
set_option maxHeartbeats 4000000 in
set_option maxRecDepth 100000 in
theorem w_X2_greater_25 {p : Program} {l : Launch} {e : Env} {s : State} {m : MethodId} {args : Array Value} {below : List Frame} {meth : Method} {c : Code} {D : va_G} {cA : Nat → ClassId} {sz : Nat} {rr : UInt64} {hh : Hp}  (X : ab_X p s m args meth c cX2_greater 5 RX2 D cA sz) (hr : meth.sig.returnType = (some .double))  {H : Heap} {locs : List Loc} {ls : Array Slot} {u0 : UInt64} {h : Hp} (S : ab_H D cA sz h s H locs) (hl : lv_has ls 5 []) (hF : f_X2_greater_25 u0 h = some (rr, hh)) : W p l e (ab_rm 0 0 0) s m args below meth c H locs 0 0 (MQ below (ab_Q D cA sz (some (.double rr)) hh) args s 0 0 (fun q => sz ≤ q)) (F0 m 25 ls [.double u0]) := by
  unfold f_X2_greater_25 at hF
  exact ab_dret X S hr hF dX2_greater_25
def f_X2_greater (this : Nat) (p0 : UInt64) (p1 : UInt64) (h : Hp) : Option (UInt64 × Hp) :=
  if ¬ (Op.cmpValue (FP.dcmp p0 FP.dconst0) CmpOp.l) = 0 then
    f_X2_greater_26 p0 p1 h
  else
    if ¬ (Op.cmpValue (FP.dcmp p1 FP.dconst0) CmpOp.l) = 0 then
      f_X2_greater_26 p0 p1 h
    else
      (fop (FP.ddiv FP.dconst1 p0)).bind fun x3 =>
      if 0 ≤ (Op.cmpValue (FP.dcmp x3 FP.dconst0) CmpOp.g) then
        f_X2_greater_25 p0 h
      else
        f_X2_greater_25 p1 h
theorem mi_X2_greater : ab_MI yX2_greater cX2_greater 5 (some .double) 2 := ⟨lc_yX2_greater, lz_RX2, by decide, by decide, by decide +kernel⟩
set_option maxHeartbeats 4000000 in
set_option maxRecDepth 100000 in
theorem c_X2_greater (l : Launch) (D : va_G) (cA : Nat → ClassId) (sz : Nat) {this : Nat} {p0 : UInt64} {p1 : UInt64} {h hh : Hp} {rr : UInt64} (hF : f_X2_greater this p0 p1 h = some (rr, hh)) : ab_C l D cA sz yX2_greater cX2_greater 5 (some .double) 0 0 0 [.ref this, .double p0, .double p1] h (some (.double rr)) hh := by
  refine Met.ofW (cc := cX2_greater) (maxL := 5) (ret := (some .double)) (by decide) rfl ?_
  intro p e s m args below meth c s₁ B hml hv
  obtain ⟨rfl, hT, hR⟩ := hv
  have X : ab_X p s m _ meth c cX2_greater 5 RX2 D cA sz := (ab_enter B hml hT hR).1
  have S := (ab_enter B hml hT hR).2
  have hr := B.returns
  obtain ⟨ls, hls, hl⟩ := ab_entry m [.ref this, .double p0, .double p1] 5 (lv := [(0, .ref this), (1, .double p0), (3, .double p1)]) (by simp [lg_sl, ab_cat, ab_cI, ab_cJ, ab_cD, ab_cF, ab_cA]) (by simp [lv_args, ab_cat, ab_cI, ab_cJ, ab_cD, ab_cF, ab_cA])
  rw [hls]
  have hl : lv_has ls 5 [(0, va_rf (some this)), (1, .double p0), (3, .double p1)] := hl
  unfold f_X2_greater at hF
  show W p l e (ab_rm 0 0 0) s m _ below meth c s.heap [] 0 0 _ _
  refine lv_dload_n X.1 X.2.1 dX2_greater_0 rfl (lv_at hl 1 rfl) ?_
  refine lv_dconst0 X.1 X.2.1 dX2_greater_1 ?_
  refine lv_dcmp X.1 X.2.1 dX2_greater_2 ?_
  refine lv_if_ne (tgt := 26) X.1 X.2.1 dX2_greater_3 (by decide) (fun c1 => ?_) (fun c1 => ?_)
  · have hF := ab_pos c1 hF
    exact w_X2_greater_26 X hr  S (lv_sub hl [1, 2] rfl) hF
  · have hF := ab_neg (fun q => q c1) hF
    refine lv_dload_n X.1 X.2.1 dX2_greater_6 rfl (lv_at hl 2 rfl) ?_
    refine lv_dconst0 X.1 X.2.1 dX2_greater_7 ?_
    refine lv_dcmp X.1 X.2.1 dX2_greater_8 ?_
    refine lv_if_ne (tgt := 26) X.1 X.2.1 dX2_greater_9 (by decide) (fun c2 => ?_) (fun c2 => ?_)
    · have hF := ab_pos c2 hF
      exact w_X2_greater_26 X hr  S (lv_sub hl [1, 2] rfl) hF
    · have hF := ab_neg (fun q => q c2) hF
      refine lv_dconst1 X.1 X.2.1 dX2_greater_12 ?_
      refine lv_dload_n X.1 X.2.1 dX2_greater_13 rfl (lv_at hl 1 rfl) ?_
      obtain ⟨x3, ev, ne, hF⟩ := ab_fopx hF
      refine lv_ddiv X.1 X.2.1 dX2_greater_14 ne ?_
      rw [ev]
      refine lv_dconst0 X.1 X.2.1 dX2_greater_15 ?_
      refine lv_dcmp X.1 X.2.1 dX2_greater_16 ?_
      refine lv_if_ge (tgt := 24) X.1 X.2.1 dX2_greater_17 (by decide) (fun c4 => ?_) (fun c4 => ?_)
      · have hF := ab_pos c4 hF
        refine lv_dload_n X.1 X.2.1 dX2_greater_24 rfl (lv_at hl 1 rfl) ?_
        exact w_X2_greater_25 X hr  S (lv_sub hl [] rfl) hF
      · have hF := ab_neg c4 hF
        refine lv_dload_n X.1 X.2.1 dX2_greater_20 rfl (lv_at hl 2 rfl) ?_
        refine lv_goto (tgt := 25) X.1 X.2.1 dX2_greater_21 (by decide) ?_
        exact w_X2_greater_25 X hr  S (lv_sub hl [] rfl) hF
def f_X2_power_6  : Nat → UInt64 → Int32 → UInt64 → Int32 → Hp → Option (UInt64 × Hp)
  | 0, _, _, _, _, _ => none
  | n + 1, v1, v3, v4, v6, h => if v3 ≤ v6 then
      some (v4, h)
    else
      (fop (FP.dmul v4 v1)).bind fun x2 =>
      f_X2_power_6 n v1 v3 x2 (v6 + 1) h
set_option maxHeartbeats 4000000 in
set_option maxRecDepth 100000 in
theorem w_X2_power_6 {p : Program} {l : Launch} {e : Env} {s : State} {m : MethodId} {args : Array Value} {below : List Frame} {meth : Method} {c : Code} {D : va_G} {cA : Nat → ClassId} {sz : Nat} {rr : UInt64} {hh : Hp}  (X : ab_X p s m args meth c cX2_power 7 RX2 D cA sz) (hr : meth.sig.returnType = (some .double))  (n : Nat) : ∀ (v1 : UInt64) (v3 : Int32) (v4 : UInt64) (v6 : Int32) (h : Hp) (H : Heap) (locs : List Loc) (ls : Array Slot), ab_H D cA sz h s H locs → lv_has ls 7 [(1, .double v1), (3, .int v3), (4, .double v4), (6, .int v6)] → f_X2_power_6 n v1 v3 v4 v6 h = some (rr, hh) → W p l e (ab_rm 0 0 0) s m args below meth c H locs 0 0 (MQ below (ab_Q D cA sz (some (.double rr)) hh) args s 0 0 (fun q => sz ≤ q)) (F0 m 6 ls []) := by
  induction n with
  | zero => intro v1 v3 v4 v6 h H locs ls S hl hF; cases hF
  | succ n ih =>
    intro v1 v3 v4 v6 h H locs ls S hl hF
    rw [f_X2_power_6] at hF
    refine lv_iload X.1 X.2.1 dX2_power_6 (lv_at hl 3 rfl) ?_
    refine lv_iload_n X.1 X.2.1 dX2_power_8 rfl (lv_at hl 1 rfl) ?_
    refine lv_icmp_ge (tgt := 24) X.1 X.2.1 dX2_power_9 (by decide) (fun c1 => ?_) (fun c1 => ?_)
    · have hF := ab_pos c1 hF
      refine lv_dload X.1 X.2.1 dX2_power_24 (lv_at hl 2 rfl) ?_
      exact ab_dret X S hr hF dX2_power_26
    · have hF := ab_neg c1 hF
      refine lv_dload X.1 X.2.1 dX2_power_12 (lv_at hl 2 rfl) ?_
      refine lv_dload_n X.1 X.2.1 dX2_power_14 rfl (lv_at hl 0 rfl) ?_
      obtain ⟨x2, ev, ne, hF⟩ := ab_fopx hF
      refine lv_dmul X.1 X.2.1 dX2_power_15 ne ?_
      rw [ev]
      refine lv_dstore (lv' := [(4, .double x2), (1, .double v1), (3, .int v3), (6, .int v6)]) X.1 X.2.1 dX2_power_16 hl (by decide) (by simp [ab_cat, ab_cI, ab_cJ, ab_cD, ab_cF]) (fun ls hl => ?_)
      refine lv_iinc (v := v6 + 1) (lv' := [(6, .int (v6 + 1)), (4, .double x2), (1, .double v1), (3, .int v3)]) X.1 X.2.1 dX2_power_18 hl (k := 3) rfl (by rfl) (by decide) (by simp [ab_cat, ab_cI, ab_cJ, ab_cD, ab_cF]) (fun ls hl => ?_)
      refine lv_goto (tgt := 6) X.1 X.2.1 dX2_power_21 (by decide) ?_
      exact ih _ _ _ _ _ _ _ _ S (lv_sub hl [2, 3, 1, 0] rfl) hF
def f_X2_power (this : Nat) (p0 : UInt64) (p1 : Int32) (h : Hp) : Option (UInt64 × Hp) :=
  f_X2_power_6 fuelN p0 p1 FP.dconst1 0 h
theorem mi_X2_power : ab_MI yX2_power cX2_power 7 (some .double) 2 := ⟨lc_yX2_power, lz_RX2, by decide, by decide, by decide +kernel⟩
set_option maxHeartbeats 4000000 in
set_option maxRecDepth 100000 in
theorem c_X2_power (l : Launch) (D : va_G) (cA : Nat → ClassId) (sz : Nat) {this : Nat} {p0 : UInt64} {p1 : Int32} {h hh : Hp} {rr : UInt64} (hF : f_X2_power this p0 p1 h = some (rr, hh)) : ab_C l D cA sz yX2_power cX2_power 7 (some .double) 0 0 0 [.ref this, .double p0, .int p1] h (some (.double rr)) hh := by
  refine Met.ofW (cc := cX2_power) (maxL := 7) (ret := (some .double)) (by decide) rfl ?_
  intro p e s m args below meth c s₁ B hml hv
  obtain ⟨rfl, hT, hR⟩ := hv
  have X : ab_X p s m _ meth c cX2_power 7 RX2 D cA sz := (ab_enter B hml hT hR).1
  have S := (ab_enter B hml hT hR).2
  have hr := B.returns
  obtain ⟨ls, hls, hl⟩ := ab_entry m [.ref this, .double p0, .int p1] 7 (lv := [(0, .ref this), (1, .double p0), (3, .int p1)]) (by simp [lg_sl, ab_cat, ab_cI, ab_cJ, ab_cD, ab_cF, ab_cA]) (by simp [lv_args, ab_cat, ab_cI, ab_cJ, ab_cD, ab_cF, ab_cA])
  rw [hls]
  have hl : lv_has ls 7 [(0, va_rf (some this)), (1, .double p0), (3, .int p1)] := hl
  unfold f_X2_power at hF
  show W p l e (ab_rm 0 0 0) s m _ below meth c s.heap [] 0 0 _ _
  refine lv_dconst1 X.1 X.2.1 dX2_power_0 ?_
  refine lv_dstore (lv' := [(4, .double FP.dconst1), (0, va_rf (some this)), (1, .double p0), (3, .int p1)]) X.1 X.2.1 dX2_power_1 hl (by decide) (by simp [ab_cat, ab_cI, ab_cJ, ab_cD, ab_cF]) (fun ls hl => ?_)
  refine lv_iconst (v := 0) X.1 X.2.1 dX2_power_3 (by decide) ?_
  refine lv_istore (lv' := [(6, .int 0), (4, .double FP.dconst1), (0, va_rf (some this)), (1, .double p0), (3, .int p1)]) X.1 X.2.1 dX2_power_4 hl (by decide) (by simp [ab_cat, ab_cI, ab_cJ, ab_cD, ab_cF]) (fun ls hl => ?_)
  exact w_X2_power_6 X hr  fuelN _ _ _ _ _ _ _ _ S (lv_sub hl [3, 4, 1, 0] rfl) hF
def f_X3_copy_2  : Nat → Option Nat → Option Nat → Int32 → Hp → Option (Unit × Hp)
  | 0, _, _, _, _ => none
  | n + 1, v0, v1, v2, h => (getR h v0 3 0).bind fun x1 =>
    (alen h x1 10).bind fun x2 =>
    if x2 ≤ v2 then
      some ((), h)
    else
      (getR h v0 3 0).bind fun x4 =>
      (getR h v1 3 0).bind fun x5 =>
      (aldD h x5 v2).bind fun x6 =>
      (astD h x4 v2 x6).bind fun h7 =>
      (getR h7 v0 3 1).bind fun x8 =>
      (getR h7 v1 3 1).bind fun x9 =>
      (aldI h7 x9 12 v2).bind fun x10 =>
      (astZ h7 x8 v2 x10).bind fun h11 =>
      f_X3_copy_2 n v0 v1 (v2 + 1) h11
set_option maxHeartbeats 4000000 in
set_option maxRecDepth 100000 in
theorem w_X3_copy_2 {p : Program} {l : Launch} {e : Env} {s : State} {m : MethodId} {args : Array Value} {below : List Frame} {meth : Method} {c : Code} {D : va_G} {cA : Nat → ClassId} {sz : Nat}  {hh : Hp}  (X : ab_X p s m args meth c cX3_copy 3 RX3 D cA sz) (hr : meth.sig.returnType = none)  (n : Nat) : ∀ (v0 : Option Nat) (v1 : Option Nat) (v2 : Int32) (h : Hp) (H : Heap) (locs : List Loc) (ls : Array Slot), ab_H D cA sz h s H locs → lv_has ls 3 [(0, va_rf v0), (1, va_rf v1), (2, .int v2)] → f_X3_copy_2 n v0 v1 v2 h = some ((), hh) → W p l e (ab_rm 0 0 0) s m args below meth c H locs 0 0 (MQ below (ab_Q D cA sz none hh) args s 0 0 (fun q => sz ≤ q)) (F0 m 2 ls []) := by
  induction n with
  | zero => intro v0 v1 v2 h H locs ls S hl hF; cases hF
  | succ n ih =>
    intro v0 v1 v2 h H locs ls S hl hF
    rw [f_X3_copy_2] at hF
    refine lv_iload_n X.1 X.2.1 dX3_copy_2 rfl (lv_at hl 2 rfl) ?_
    refine ab_aload_n X dX3_copy_3 rfl (lv_at hl 0 rfl) ?_
    refine ab_getR X S hF fi_3_0 lf_X3_7 dX3_copy_4 (fun x1 hF => ?_)
    refine ab_alen X S hF rfl (by decide) dX3_copy_7 (fun x2 hF => ?_)
    refine lv_icmp_ge (tgt := 41) X.1 X.2.1 dX3_copy_8 (by decide) (fun c3 => ?_) (fun c3 => ?_)
    · have hF := ab_pos c3 hF
      exact ab_vret X S hr hF dX3_copy_41
    · have hF := ab_neg c3 hF
      refine ab_aload_n X dX3_copy_11 rfl (lv_at hl 0 rfl) ?_
      refine ab_getR X S hF fi_3_0 lf_X3_7 dX3_copy_12 (fun x4 hF => ?_)
      refine lv_iload_n X.1 X.2.1 dX3_copy_15 rfl (lv_at hl 2 rfl) ?_
      refine ab_aload_n X dX3_copy_16 rfl (lv_at hl 1 rfl) ?_
      refine ab_getR X S hF fi_3_0 lf_X3_7 dX3_copy_17 (fun x5 hF => ?_)
      refine lv_iload_n X.1 X.2.1 dX3_copy_20 rfl (lv_at hl 2 rfl) ?_
      refine ab_aldD X S hF dX3_copy_21 (fun x6 hF => ?_)
      refine ab_astD X S hF dX3_copy_22 (fun h7 H1 locs1 hF S => ?_)
      refine ab_aload_n X dX3_copy_23 rfl (lv_at hl 0 rfl) ?_
      refine ab_getR X S hF fi_3_1 lf_X3_13 dX3_copy_24 (fun x8 hF => ?_)
      refine lv_iload_n X.1 X.2.1 dX3_copy_27 rfl (lv_at hl 2 rfl) ?_
      refine ab_aload_n X dX3_copy_28 rfl (lv_at hl 1 rfl) ?_
      refine ab_getR X S hF fi_3_1 lf_X3_13 dX3_copy_29 (fun x9 hF => ?_)
      refine lv_iload_n X.1 X.2.1 dX3_copy_32 rfl (lv_at hl 2 rfl) ?_
      refine ab_aldZ X S hF dX3_copy_33 (fun x10 hF => ?_)
      refine ab_astZ X S hF dX3_copy_34 (fun h11 H1 locs1 hF S => ?_)
      refine lv_iinc (v := v2 + 1) (lv' := [(2, .int (v2 + 1)), (0, va_rf v0), (1, va_rf v1)]) X.1 X.2.1 dX3_copy_35 hl (k := 2) rfl (by rfl) (by decide) (by simp [ab_cat, ab_cI, ab_cJ, ab_cD, ab_cF]) (fun ls hl => ?_)
      refine lv_goto (tgt := 2) X.1 X.2.1 dX3_copy_38 (by decide) ?_
      exact ih _ _ _ _ _ _ _ S (lv_sub hl [1, 2, 0] rfl) hF
def f_X3_copy (this : Nat) (p0 : Option Nat) (h : Hp) : Option (Unit × Hp) :=
  f_X3_copy_2 fuelN (some this) p0 0 h
theorem mi_X3_copy : ab_MI yX3_copy cX3_copy 3 none 1 := ⟨lc_yX3_copy, lz_RX3, by decide, by decide, by decide +kernel⟩
set_option maxHeartbeats 4000000 in
set_option maxRecDepth 100000 in
theorem c_X3_copy (l : Launch) (D : va_G) (cA : Nat → ClassId) (sz : Nat) {this : Nat} {p0 : Option Nat} {h hh : Hp}  (hF : f_X3_copy this p0 h = some ((), hh)) : ab_C l D cA sz yX3_copy cX3_copy 3 none 0 0 0 [.ref this, va_rf p0] h none hh := by
  refine Met.ofW (cc := cX3_copy) (maxL := 3) (ret := none) (by decide) rfl ?_
  intro p e s m args below meth c s₁ B hml hv
  obtain ⟨rfl, hT, hR⟩ := hv
  have X : ab_X p s m _ meth c cX3_copy 3 RX3 D cA sz := (ab_enter B hml hT hR).1
  have S := (ab_enter B hml hT hR).2
  have hr := B.returns
  obtain ⟨ls, hls, hl⟩ := ab_entry m [.ref this, va_rf p0] 3 (lv := [(0, .ref this), (1, va_rf p0)]) (by simp [lg_sl, ab_cat, ab_cI, ab_cJ, ab_cD, ab_cF, ab_cA]) (by simp [lv_args, ab_cat, ab_cI, ab_cJ, ab_cD, ab_cF, ab_cA])
  rw [hls]
  have hl : lv_has ls 3 [(0, va_rf (some this)), (1, va_rf p0)] := hl
  unfold f_X3_copy at hF
  show W p l e (ab_rm 0 0 0) s m _ below meth c s.heap [] 0 0 _ _
  refine lv_iconst (v := 0) X.1 X.2.1 dX3_copy_0 (by decide) ?_
  refine lv_istore_n (i := 2) (lv' := [(2, .int 0), (0, va_rf (some this)), (1, va_rf p0)]) X.1 X.2.1 dX3_copy_1 rfl hl (by decide) (by simp [ab_cat, ab_cI, ab_cJ, ab_cD, ab_cF]) (fun ls hl => ?_)
  exact w_X3_copy_2 X hr  fuelN _ _ _ _ _ _ _ S (lv_sub hl [1, 2, 0] rfl) hF
