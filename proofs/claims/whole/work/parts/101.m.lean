def f_X2_sum_45  (v1 : UInt64) (v3 : UInt64) (h : Hp) : Option (UInt64 × Hp) :=
  (fop (FP.dadd v1 v3)).bind fun x1 =>
  some (x1, h)
set_option maxHeartbeats 4000000 in
set_option maxRecDepth 100000 in
theorem w_X2_sum_45 {p : Program} {l : Launch} {e : Env} {s : State} {m : MethodId} {args : Array Value} {below : List Frame} {meth : Method} {c : Code} {D : va_G} {cA : Nat → ClassId} {sz : Nat} {rr : UInt64} {hh : Hp}  (X : ab_X p s m args meth c cX2_sum 5 RX2 D cA sz) (hr : meth.sig.returnType = (some .double))  {H : Heap} {locs : List Loc} {ls : Array Slot} {v1 : UInt64} {v3 : UInt64} {h : Hp} (S : ab_H D cA sz h s H locs) (hl : lv_has ls 5 [(1, .double v1), (3, .double v3)]) (hF : f_X2_sum_45 v1 v3 h = some (rr, hh)) : W p l e (ab_rm 0 0 0) s m args below meth c H locs 0 0 (MQ below (ab_Q D cA sz (some (.double rr)) hh) args s 0 0 (fun q => sz ≤ q)) (F0 m 45 ls []) := by
  unfold f_X2_sum_45 at hF
  refine lv_dload_n X.1 X.2.1 dX2_sum_45 rfl (lv_at hl 0 rfl) ?_
  refine lv_dload_n X.1 X.2.1 dX2_sum_46 rfl (lv_at hl 1 rfl) ?_
  obtain ⟨x1, ev, ne, hF⟩ := ab_fopx hF
  refine lv_dadd X.1 X.2.1 dX2_sum_47 ne ?_
  rw [ev]
  exact ab_dret X S hr hF dX2_sum_48
def f_X2_sum_38  (v0 : Option Nat) (h : Hp) : Option (UInt64 × Hp) :=
  (putZ h v0 2 1 1).bind fun h1 =>
  some (FP.dconst0, h1)
set_option maxHeartbeats 4000000 in
set_option maxRecDepth 100000 in
theorem w_X2_sum_38 {p : Program} {l : Launch} {e : Env} {s : State} {m : MethodId} {args : Array Value} {below : List Frame} {meth : Method} {c : Code} {D : va_G} {cA : Nat → ClassId} {sz : Nat} {rr : UInt64} {hh : Hp}  (X : ab_X p s m args meth c cX2_sum 5 RX2 D cA sz) (hr : meth.sig.returnType = (some .double))  {H : Heap} {locs : List Loc} {ls : Array Slot} {v0 : Option Nat} {h : Hp} (S : ab_H D cA sz h s H locs) (hl : lv_has ls 5 [(0, va_rf v0)]) (hF : f_X2_sum_38 v0 h = some (rr, hh)) : W p l e (ab_rm 0 0 0) s m args below meth c H locs 0 0 (MQ below (ab_Q D cA sz (some (.double rr)) hh) args s 0 0 (fun q => sz ≤ q)) (F0 m 38 ls []) := by
  unfold f_X2_sum_38 at hF
  refine ab_aload_n X dX2_sum_38 rfl (lv_at hl 0 rfl) ?_
  refine lv_iconst (v := 1) X.1 X.2.1 dX2_sum_39 (by decide) ?_
  refine ab_putZ X S hF fi_2_1 ci_2 (Or.inl rfl) rfl lf_X2_15 dX2_sum_40 (fun h1 H1 locs1 hF S => ?_)
  refine lv_dconst0 X.1 X.2.1 dX2_sum_43 ?_
  exact ab_dret X S hr hF dX2_sum_44
def f_X2_sum_19  (v0 : Option Nat) (v1 : UInt64) (v3 : UInt64) (h : Hp) : Option (UInt64 × Hp) :=
  (getD h v0 2 0).bind fun x1 =>
  if 0 ≤ (Op.cmpValue (FP.dcmp v1 (FP.dneg x1)) CmpOp.g) then
    f_X2_sum_45 v1 v3 h
  else
    (getD h v0 2 0).bind fun x3 =>
    if (Op.cmpValue (FP.dcmp v3 x3) CmpOp.l) ≤ 0 then
      f_X2_sum_45 v1 v3 h
    else
      f_X2_sum_38 v0 h
set_option maxHeartbeats 4000000 in
set_option maxRecDepth 100000 in
theorem w_X2_sum_19 {p : Program} {l : Launch} {e : Env} {s : State} {m : MethodId} {args : Array Value} {below : List Frame} {meth : Method} {c : Code} {D : va_G} {cA : Nat → ClassId} {sz : Nat} {rr : UInt64} {hh : Hp}  (X : ab_X p s m args meth c cX2_sum 5 RX2 D cA sz) (hr : meth.sig.returnType = (some .double))  {H : Heap} {locs : List Loc} {ls : Array Slot} {v0 : Option Nat} {v1 : UInt64} {v3 : UInt64} {h : Hp} (S : ab_H D cA sz h s H locs) (hl : lv_has ls 5 [(0, va_rf v0), (1, .double v1), (3, .double v3)]) (hF : f_X2_sum_19 v0 v1 v3 h = some (rr, hh)) : W p l e (ab_rm 0 0 0) s m args below meth c H locs 0 0 (MQ below (ab_Q D cA sz (some (.double rr)) hh) args s 0 0 (fun q => sz ≤ q)) (F0 m 19 ls []) := by
  unfold f_X2_sum_19 at hF
  refine lv_dload_n X.1 X.2.1 dX2_sum_19 rfl (lv_at hl 1 rfl) ?_
  refine ab_aload_n X dX2_sum_20 rfl (lv_at hl 0 rfl) ?_
  refine ab_getD X S hF fi_2_0 lf_X2_9 dX2_sum_21 (fun x1 hF => ?_)
  refine lv_dneg X.1 X.2.1 dX2_sum_24 ?_
  refine lv_dcmp X.1 X.2.1 dX2_sum_25 ?_
  refine lv_if_ge (tgt := 45) X.1 X.2.1 dX2_sum_26 (by decide) (fun c2 => ?_) (fun c2 => ?_)
  · have hF := ab_pos c2 hF
    exact w_X2_sum_45 X hr  S (lv_sub hl [1, 2] rfl) hF
  · have hF := ab_neg c2 hF
    refine lv_dload_n X.1 X.2.1 dX2_sum_29 rfl (lv_at hl 2 rfl) ?_
    refine ab_aload_n X dX2_sum_30 rfl (lv_at hl 0 rfl) ?_
    refine ab_getD X S hF fi_2_0 lf_X2_9 dX2_sum_31 (fun x3 hF => ?_)
    refine lv_dcmp X.1 X.2.1 dX2_sum_34 ?_
    refine lv_if_le (tgt := 45) X.1 X.2.1 dX2_sum_35 (by decide) (fun c4 => ?_) (fun c4 => ?_)
    · have hF := ab_pos c4 hF
      exact w_X2_sum_45 X hr  S (lv_sub hl [1, 2] rfl) hF
    · have hF := ab_neg c4 hF
      exact w_X2_sum_38 X hr  S (lv_sub hl [0] rfl) hF
def f_X2_sum (this : Nat) (p0 : UInt64) (p1 : UInt64) (h : Hp) : Option (UInt64 × Hp) :=
  (getD h (some this) 2 0).bind fun x1 =>
  if (Op.cmpValue (FP.dcmp p0 x1) CmpOp.l) ≤ 0 then
    f_X2_sum_19 (some this) p0 p1 h
  else
    (getD h (some this) 2 0).bind fun x3 =>
    if (Op.cmpValue (FP.dcmp p1 (FP.dneg x3)) CmpOp.g) < 0 then
      f_X2_sum_38 (some this) h
    else
      f_X2_sum_19 (some this) p0 p1 h
theorem mi_X2_sum : ab_MI yX2_sum cX2_sum 5 (some .double) 2 := ⟨lc_yX2_sum, lz_RX2, by decide, by decide, by decide +kernel⟩
set_option maxHeartbeats 4000000 in
set_option maxRecDepth 100000 in
theorem c_X2_sum (l : Launch) (D : va_G) (cA : Nat → ClassId) (sz : Nat) {this : Nat} {p0 : UInt64} {p1 : UInt64} {h hh : Hp} {rr : UInt64} (hF : f_X2_sum this p0 p1 h = some (rr, hh)) : ab_C l D cA sz yX2_sum cX2_sum 5 (some .double) 0 0 0 [.ref this, .double p0, .double p1] h (some (.double rr)) hh := by
  refine Met.ofW (cc := cX2_sum) (maxL := 5) (ret := (some .double)) (by decide) rfl ?_
  intro p e s m args below meth c s₁ B hml hv
  obtain ⟨rfl, hT, hR⟩ := hv
  have X : ab_X p s m _ meth c cX2_sum 5 RX2 D cA sz := (ab_enter B hml hT hR).1
  have S := (ab_enter B hml hT hR).2
  have hr := B.returns
  obtain ⟨ls, hls, hl⟩ := ab_entry m [.ref this, .double p0, .double p1] 5 (lv := [(0, .ref this), (1, .double p0), (3, .double p1)]) (by simp [lg_sl, ab_cat, ab_cI, ab_cJ, ab_cD, ab_cF, ab_cA]) (by simp [lv_args, ab_cat, ab_cI, ab_cJ, ab_cD, ab_cF, ab_cA])
  rw [hls]
  have hl : lv_has ls 5 [(0, va_rf (some this)), (1, .double p0), (3, .double p1)] := hl
  unfold f_X2_sum at hF
  show W p l e (ab_rm 0 0 0) s m _ below meth c s.heap [] 0 0 _ _
  refine lv_dload_n X.1 X.2.1 dX2_sum_0 rfl (lv_at hl 1 rfl) ?_
  refine ab_aload_n X dX2_sum_1 rfl (lv_at hl 0 rfl) ?_
  refine ab_getD X S hF fi_2_0 lf_X2_9 dX2_sum_2 (fun x1 hF => ?_)
  refine lv_dcmp X.1 X.2.1 dX2_sum_5 ?_
  refine lv_if_le (tgt := 19) X.1 X.2.1 dX2_sum_6 (by decide) (fun c2 => ?_) (fun c2 => ?_)
  · have hF := ab_pos c2 hF
    exact w_X2_sum_19 X hr  S (lv_sub hl [0, 1, 2] rfl) hF
  · have hF := ab_neg c2 hF
    refine lv_dload_n X.1 X.2.1 dX2_sum_9 rfl (lv_at hl 2 rfl) ?_
    refine ab_aload_n X dX2_sum_10 rfl (lv_at hl 0 rfl) ?_
    refine ab_getD X S hF fi_2_0 lf_X2_9 dX2_sum_11 (fun x3 hF => ?_)
    refine lv_dneg X.1 X.2.1 dX2_sum_14 ?_
    refine lv_dcmp X.1 X.2.1 dX2_sum_15 ?_
    refine lv_if_lt (tgt := 38) X.1 X.2.1 dX2_sum_16 (by decide) (fun c4 => ?_) (fun c4 => ?_)
    · have hF := ab_pos c4 hF
      exact w_X2_sum_38 X hr  S (lv_sub hl [0] rfl) hF
    · have hF := ab_neg c4 hF
      exact w_X2_sum_19 X hr  S (lv_sub hl [0, 1, 2] rfl) hF
def f_X2_difference_45  (v1 : UInt64) (v3 : UInt64) (h : Hp) : Option (UInt64 × Hp) :=
  (fop (FP.dsub v1 v3)).bind fun x1 =>
  some (x1, h)
set_option maxHeartbeats 4000000 in
set_option maxRecDepth 100000 in
theorem w_X2_difference_45 {p : Program} {l : Launch} {e : Env} {s : State} {m : MethodId} {args : Array Value} {below : List Frame} {meth : Method} {c : Code} {D : va_G} {cA : Nat → ClassId} {sz : Nat} {rr : UInt64} {hh : Hp}  (X : ab_X p s m args meth c cX2_difference 5 RX2 D cA sz) (hr : meth.sig.returnType = (some .double))  {H : Heap} {locs : List Loc} {ls : Array Slot} {v1 : UInt64} {v3 : UInt64} {h : Hp} (S : ab_H D cA sz h s H locs) (hl : lv_has ls 5 [(1, .double v1), (3, .double v3)]) (hF : f_X2_difference_45 v1 v3 h = some (rr, hh)) : W p l e (ab_rm 0 0 0) s m args below meth c H locs 0 0 (MQ below (ab_Q D cA sz (some (.double rr)) hh) args s 0 0 (fun q => sz ≤ q)) (F0 m 45 ls []) := by
  unfold f_X2_difference_45 at hF
  refine lv_dload_n X.1 X.2.1 dX2_difference_45 rfl (lv_at hl 0 rfl) ?_
  refine lv_dload_n X.1 X.2.1 dX2_difference_46 rfl (lv_at hl 1 rfl) ?_
  obtain ⟨x1, ev, ne, hF⟩ := ab_fopx hF
  refine lv_dsub X.1 X.2.1 dX2_difference_47 ne ?_
  rw [ev]
  exact ab_dret X S hr hF dX2_difference_48
def f_X2_difference_38  (v0 : Option Nat) (h : Hp) : Option (UInt64 × Hp) :=
  (putZ h v0 2 1 1).bind fun h1 =>
  some (FP.dconst0, h1)
set_option maxHeartbeats 4000000 in
set_option maxRecDepth 100000 in
theorem w_X2_difference_38 {p : Program} {l : Launch} {e : Env} {s : State} {m : MethodId} {args : Array Value} {below : List Frame} {meth : Method} {c : Code} {D : va_G} {cA : Nat → ClassId} {sz : Nat} {rr : UInt64} {hh : Hp}  (X : ab_X p s m args meth c cX2_difference 5 RX2 D cA sz) (hr : meth.sig.returnType = (some .double))  {H : Heap} {locs : List Loc} {ls : Array Slot} {v0 : Option Nat} {h : Hp} (S : ab_H D cA sz h s H locs) (hl : lv_has ls 5 [(0, va_rf v0)]) (hF : f_X2_difference_38 v0 h = some (rr, hh)) : W p l e (ab_rm 0 0 0) s m args below meth c H locs 0 0 (MQ below (ab_Q D cA sz (some (.double rr)) hh) args s 0 0 (fun q => sz ≤ q)) (F0 m 38 ls []) := by
  unfold f_X2_difference_38 at hF
  refine ab_aload_n X dX2_difference_38 rfl (lv_at hl 0 rfl) ?_
  refine lv_iconst (v := 1) X.1 X.2.1 dX2_difference_39 (by decide) ?_
  refine ab_putZ X S hF fi_2_1 ci_2 (Or.inl rfl) rfl lf_X2_15 dX2_difference_40 (fun h1 H1 locs1 hF S => ?_)
  refine lv_dconst0 X.1 X.2.1 dX2_difference_43 ?_
  exact ab_dret X S hr hF dX2_difference_44
def f_X2_difference_18  (v0 : Option Nat) (v1 : UInt64) (v3 : UInt64) (h : Hp) : Option (UInt64 × Hp) :=
  (getD h v0 2 0).bind fun x1 =>
  if 0 ≤ (Op.cmpValue (FP.dcmp v1 (FP.dneg x1)) CmpOp.g) then
    f_X2_difference_45 v1 v3 h
  else
    (getD h v0 2 0).bind fun x3 =>
    if 0 ≤ (Op.cmpValue (FP.dcmp v3 (FP.dneg x3)) CmpOp.g) then
      f_X2_difference_45 v1 v3 h
    else
      f_X2_difference_38 v0 h
set_option maxHeartbeats 4000000 in
set_option maxRecDepth 100000 in
theorem w_X2_difference_18 {p : Program} {l : Launch} {e : Env} {s : State} {m : MethodId} {args : Array Value} {below : List Frame} {meth : Method} {c : Code} {D : va_G} {cA : Nat → ClassId} {sz : Nat} {rr : UInt64} {hh : Hp}  (X : ab_X p s m args meth c cX2_difference 5 RX2 D cA sz) (hr : meth.sig.returnType = (some .double))  {H : Heap} {locs : List Loc} {ls : Array Slot} {v0 : Option Nat} {v1 : UInt64} {v3 : UInt64} {h : Hp} (S : ab_H D cA sz h s H locs) (hl : lv_has ls 5 [(0, va_rf v0), (1, .double v1), (3, .double v3)]) (hF : f_X2_difference_18 v0 v1 v3 h = some (rr, hh)) : W p l e (ab_rm 0 0 0) s m args below meth c H locs 0 0 (MQ below (ab_Q D cA sz (some (.double rr)) hh) args s 0 0 (fun q => sz ≤ q)) (F0 m 18 ls []) := by
  unfold f_X2_difference_18 at hF
  refine lv_dload_n X.1 X.2.1 dX2_difference_18 rfl (lv_at hl 1 rfl) ?_
  refine ab_aload_n X dX2_difference_19 rfl (lv_at hl 0 rfl) ?_
  refine ab_getD X S hF fi_2_0 lf_X2_9 dX2_difference_20 (fun x1 hF => ?_)
  refine lv_dneg X.1 X.2.1 dX2_difference_23 ?_
  refine lv_dcmp X.1 X.2.1 dX2_difference_24 ?_
  refine lv_if_ge (tgt := 45) X.1 X.2.1 dX2_difference_25 (by decide) (fun c2 => ?_) (fun c2 => ?_)
  · have hF := ab_pos c2 hF
    exact w_X2_difference_45 X hr  S (lv_sub hl [1, 2] rfl) hF
  · have hF := ab_neg c2 hF
    refine lv_dload_n X.1 X.2.1 dX2_difference_28 rfl (lv_at hl 2 rfl) ?_
    refine ab_aload_n X dX2_difference_29 rfl (lv_at hl 0 rfl) ?_
    refine ab_getD X S hF fi_2_0 lf_X2_9 dX2_difference_30 (fun x3 hF => ?_)
    refine lv_dneg X.1 X.2.1 dX2_difference_33 ?_
    refine lv_dcmp X.1 X.2.1 dX2_difference_34 ?_
    refine lv_if_ge (tgt := 45) X.1 X.2.1 dX2_difference_35 (by decide) (fun c4 => ?_) (fun c4 => ?_)
    · have hF := ab_pos c4 hF
      exact w_X2_difference_45 X hr  S (lv_sub hl [1, 2] rfl) hF
    · have hF := ab_neg c4 hF
      exact w_X2_difference_38 X hr  S (lv_sub hl [0] rfl) hF
def f_X2_difference (this : Nat) (p0 : UInt64) (p1 : UInt64) (h : Hp) : Option (UInt64 × Hp) :=
  (getD h (some this) 2 0).bind fun x1 =>
  if (Op.cmpValue (FP.dcmp p0 x1) CmpOp.l) ≤ 0 then
    f_X2_difference_18 (some this) p0 p1 h
  else
    (getD h (some this) 2 0).bind fun x3 =>
    if 0 < (Op.cmpValue (FP.dcmp p1 x3) CmpOp.l) then
      f_X2_difference_38 (some this) h
    else
      f_X2_difference_18 (some this) p0 p1 h
theorem mi_X2_difference : ab_MI yX2_difference cX2_difference 5 (some .double) 2 := ⟨lc_yX2_difference, lz_RX2, by decide, by decide, by decide +kernel⟩
set_option maxHeartbeats 4000000 in
set_option maxRecDepth 100000 in
theorem c_X2_difference (l : Launch) (D : va_G) (cA : Nat → ClassId) (sz : Nat) {this : Nat} {p0 : UInt64} {p1 : UInt64} {h hh : Hp} {rr : UInt64} (hF : f_X2_difference this p0 p1 h = some (rr, hh)) : ab_C l D cA sz yX2_difference cX2_difference 5 (some .double) 0 0 0 [.ref this, .double p0, .double p1] h (some (.double rr)) hh := by
  refine Met.ofW (cc := cX2_difference) (maxL := 5) (ret := (some .double)) (by decide) rfl ?_
  intro p e s m args below meth c s₁ B hml hv
  obtain ⟨rfl, hT, hR⟩ := hv
  have X : ab_X p s m _ meth c cX2_difference 5 RX2 D cA sz := (ab_enter B hml hT hR).1
  have S := (ab_enter B hml hT hR).2
  have hr := B.returns
  obtain ⟨ls, hls, hl⟩ := ab_entry m [.ref this, .double p0, .double p1] 5 (lv := [(0, .ref this), (1, .double p0), (3, .double p1)]) (by simp [lg_sl, ab_cat, ab_cI, ab_cJ, ab_cD, ab_cF, ab_cA]) (by simp [lv_args, ab_cat, ab_cI, ab_cJ, ab_cD, ab_cF, ab_cA])
  rw [hls]
  have hl : lv_has ls 5 [(0, va_rf (some this)), (1, .double p0), (3, .double p1)] := hl
  unfold f_X2_difference at hF
  show W p l e (ab_rm 0 0 0) s m _ below meth c s.heap [] 0 0 _ _
  refine lv_dload_n X.1 X.2.1 dX2_difference_0 rfl (lv_at hl 1 rfl) ?_
  refine ab_aload_n X dX2_difference_1 rfl (lv_at hl 0 rfl) ?_
  refine ab_getD X S hF fi_2_0 lf_X2_9 dX2_difference_2 (fun x1 hF => ?_)
  refine lv_dcmp X.1 X.2.1 dX2_difference_5 ?_
  refine lv_if_le (tgt := 18) X.1 X.2.1 dX2_difference_6 (by decide) (fun c2 => ?_) (fun c2 => ?_)
  · have hF := ab_pos c2 hF
    exact w_X2_difference_18 X hr  S (lv_sub hl [0, 1, 2] rfl) hF
  · have hF := ab_neg c2 hF
    refine lv_dload_n X.1 X.2.1 dX2_difference_9 rfl (lv_at hl 2 rfl) ?_
    refine ab_aload_n X dX2_difference_10 rfl (lv_at hl 0 rfl) ?_
    refine ab_getD X S hF fi_2_0 lf_X2_9 dX2_difference_11 (fun x3 hF => ?_)
    refine lv_dcmp X.1 X.2.1 dX2_difference_14 ?_
    refine lv_if_gt (tgt := 38) X.1 X.2.1 dX2_difference_15 (by decide) (fun c4 => ?_) (fun c4 => ?_)
    · have hF := ab_pos c4 hF
      exact w_X2_difference_38 X hr  S (lv_sub hl [0] rfl) hF
    · have hF := ab_neg c4 hF
      exact w_X2_difference_18 X hr  S (lv_sub hl [0, 1, 2] rfl) hF
def f_X2_product_57  (v1 : UInt64) (v3 : UInt64) (h : Hp) : Option (UInt64 × Hp) :=
  (fop (FP.dmul v1 v3)).bind fun x1 =>
  some (x1, h)
set_option maxHeartbeats 4000000 in
set_option maxRecDepth 100000 in
theorem w_X2_product_57 {p : Program} {l : Launch} {e : Env} {s : State} {m : MethodId} {args : Array Value} {below : List Frame} {meth : Method} {c : Code} {D : va_G} {cA : Nat → ClassId} {sz : Nat} {rr : UInt64} {hh : Hp}  (X : ab_X p s m args meth c cX2_product 5 RX2 D cA sz) (hr : meth.sig.returnType = (some .double))  {H : Heap} {locs : List Loc} {ls : Array Slot} {v1 : UInt64} {v3 : UInt64} {h : Hp} (S : ab_H D cA sz h s H locs) (hl : lv_has ls 5 [(1, .double v1), (3, .double v3)]) (hF : f_X2_product_57 v1 v3 h = some (rr, hh)) : W p l e (ab_rm 0 0 0) s m args below meth c H locs 0 0 (MQ below (ab_Q D cA sz (some (.double rr)) hh) args s 0 0 (fun q => sz ≤ q)) (F0 m 57 ls []) := by
  unfold f_X2_product_57 at hF
  refine lv_dload_n X.1 X.2.1 dX2_product_57 rfl (lv_at hl 0 rfl) ?_
  refine lv_dload_n X.1 X.2.1 dX2_product_58 rfl (lv_at hl 1 rfl) ?_
  obtain ⟨x1, ev, ne, hF⟩ := ab_fopx hF
  refine lv_dmul X.1 X.2.1 dX2_product_59 ne ?_
  rw [ev]
  exact ab_dret X S hr hF dX2_product_60
def f_X2_product_50  (v0 : Option Nat) (h : Hp) : Option (UInt64 × Hp) :=
  (putZ h v0 2 1 1).bind fun h1 =>
  some (FP.dconst0, h1)
set_option maxHeartbeats 4000000 in
set_option maxRecDepth 100000 in
theorem w_X2_product_50 {p : Program} {l : Launch} {e : Env} {s : State} {m : MethodId} {args : Array Value} {below : List Frame} {meth : Method} {c : Code} {D : va_G} {cA : Nat → ClassId} {sz : Nat} {rr : UInt64} {hh : Hp}  (X : ab_X p s m args meth c cX2_product 5 RX2 D cA sz) (hr : meth.sig.returnType = (some .double))  {H : Heap} {locs : List Loc} {ls : Array Slot} {v0 : Option Nat} {h : Hp} (S : ab_H D cA sz h s H locs) (hl : lv_has ls 5 [(0, va_rf v0)]) (hF : f_X2_product_50 v0 h = some (rr, hh)) : W p l e (ab_rm 0 0 0) s m args below meth c H locs 0 0 (MQ below (ab_Q D cA sz (some (.double rr)) hh) args s 0 0 (fun q => sz ≤ q)) (F0 m 50 ls []) := by
  unfold f_X2_product_50 at hF
  refine ab_aload_n X dX2_product_50 rfl (lv_at hl 0 rfl) ?_
  refine lv_iconst (v := 1) X.1 X.2.1 dX2_product_51 (by decide) ?_
  refine ab_putZ X S hF fi_2_1 ci_2 (Or.inl rfl) rfl lf_X2_15 dX2_product_52 (fun h1 H1 locs1 hF S => ?_)
  refine lv_dconst0 X.1 X.2.1 dX2_product_55 ?_
  exact ab_dret X S hr hF dX2_product_56
def f_X2_product_25  (v0 : Option Nat) (v1 : UInt64) (v3 : UInt64) (h : Hp) : Option (UInt64 × Hp) :=
  if ¬ (Op.cmpValue (FP.dcmp v3 FP.dconst0) CmpOp.l) = 0 then
    f_X2_product_57 v1 v3 h
  else
    (getD h v0 2 0).bind fun x2 =>
    if 0 < (Op.cmpValue (FP.dcmp v1 x2) CmpOp.l) then
      f_X2_product_50 v0 h
    else
      (getD h v0 2 0).bind fun x4 =>
      if 0 ≤ (Op.cmpValue (FP.dcmp v1 (FP.dneg x4)) CmpOp.g) then
        f_X2_product_57 v1 v3 h
      else
        f_X2_product_50 v0 h
set_option maxHeartbeats 4000000 in
set_option maxRecDepth 100000 in
theorem w_X2_product_25 {p : Program} {l : Launch} {e : Env} {s : State} {m : MethodId} {args : Array Value} {below : List Frame} {meth : Method} {c : Code} {D : va_G} {cA : Nat → ClassId} {sz : Nat} {rr : UInt64} {hh : Hp}  (X : ab_X p s m args meth c cX2_product 5 RX2 D cA sz) (hr : meth.sig.returnType = (some .double))  {H : Heap} {locs : List Loc} {ls : Array Slot} {v0 : Option Nat} {v1 : UInt64} {v3 : UInt64} {h : Hp} (S : ab_H D cA sz h s H locs) (hl : lv_has ls 5 [(0, va_rf v0), (1, .double v1), (3, .double v3)]) (hF : f_X2_product_25 v0 v1 v3 h = some (rr, hh)) : W p l e (ab_rm 0 0 0) s m args below meth c H locs 0 0 (MQ below (ab_Q D cA sz (some (.double rr)) hh) args s 0 0 (fun q => sz ≤ q)) (F0 m 25 ls []) := by
  unfold f_X2_product_25 at hF
  refine lv_dload_n X.1 X.2.1 dX2_product_25 rfl (lv_at hl 2 rfl) ?_
  refine lv_dconst0 X.1 X.2.1 dX2_product_26 ?_
  refine lv_dcmp X.1 X.2.1 dX2_product_27 ?_
  refine lv_if_ne (tgt := 57) X.1 X.2.1 dX2_product_28 (by decide) (fun c1 => ?_) (fun c1 => ?_)
  · have hF := ab_pos c1 hF
    exact w_X2_product_57 X hr  S (lv_sub hl [1, 2] rfl) hF
  · have hF := ab_neg (fun q => q c1) hF
    refine lv_dload_n X.1 X.2.1 dX2_product_31 rfl (lv_at hl 1 rfl) ?_
    refine ab_aload_n X dX2_product_32 rfl (lv_at hl 0 rfl) ?_
    refine ab_getD X S hF fi_2_0 lf_X2_9 dX2_product_33 (fun x2 hF => ?_)
    refine lv_dcmp X.1 X.2.1 dX2_product_36 ?_
    refine lv_if_gt (tgt := 50) X.1 X.2.1 dX2_product_37 (by decide) (fun c3 => ?_) (fun c3 => ?_)
    · have hF := ab_pos c3 hF
      exact w_X2_product_50 X hr  S (lv_sub hl [0] rfl) hF
    · have hF := ab_neg c3 hF
      refine lv_dload_n X.1 X.2.1 dX2_product_40 rfl (lv_at hl 1 rfl) ?_
      refine ab_aload_n X dX2_product_41 rfl (lv_at hl 0 rfl) ?_
      refine ab_getD X S hF fi_2_0 lf_X2_9 dX2_product_42 (fun x4 hF => ?_)
      refine lv_dneg X.1 X.2.1 dX2_product_45 ?_
      refine lv_dcmp X.1 X.2.1 dX2_product_46 ?_
      refine lv_if_ge (tgt := 57) X.1 X.2.1 dX2_product_47 (by decide) (fun c5 => ?_) (fun c5 => ?_)
      · have hF := ab_pos c5 hF
        exact w_X2_product_57 X hr  S (lv_sub hl [1, 2] rfl) hF
      · have hF := ab_neg c5 hF
        exact w_X2_product_50 X hr  S (lv_sub hl [0] rfl) hF
def f_X2_product (this : Nat) (p0 : UInt64) (p1 : UInt64) (h : Hp) : Option (UInt64 × Hp) :=
  if ¬ (Op.cmpValue (FP.dcmp p0 FP.dconst0) CmpOp.l) = 0 then
    f_X2_product_25 (some this) p0 p1 h
  else
    (getD h (some this) 2 0).bind fun x2 =>
    if 0 < (Op.cmpValue (FP.dcmp p1 x2) CmpOp.l) then
      f_X2_product_50 (some this) h
    else
      (getD h (some this) 2 0).bind fun x4 =>
      if (Op.cmpValue (FP.dcmp p1 (FP.dneg x4)) CmpOp.g) < 0 then
        f_X2_product_50 (some this) h
      else
        f_X2_product_25 (some this) p0 p1 h
theorem mi_X2_product : ab_MI yX2_product cX2_product 5 (some .double) 2 := ⟨lc_yX2_product, lz_RX2, by decide, by decide, by decide +kernel⟩
set_option maxHeartbeats 4000000 in
set_option maxRecDepth 100000 in
theorem c_X2_product (l : Launch) (D : va_G) (cA : Nat → ClassId) (sz : Nat) {this : Nat} {p0 : UInt64} {p1 : UInt64} {h hh : Hp} {rr : UInt64} (hF : f_X2_product this p0 p1 h = some (rr, hh)) : ab_C l D cA sz yX2_product cX2_product 5 (some .double) 0 0 0 [.ref this, .double p0, .double p1] h (some (.double rr)) hh := by
  refine Met.ofW (cc := cX2_product) (maxL := 5) (ret := (some .double)) (by decide) rfl ?_
  intro p e s m args below meth c s₁ B hml hv
  obtain ⟨rfl, hT, hR⟩ := hv
  have X : ab_X p s m _ meth c cX2_product 5 RX2 D cA sz := (ab_enter B hml hT hR).1
  have S := (ab_enter B hml hT hR).2
  have hr := B.returns
  obtain ⟨ls, hls, hl⟩ := ab_entry m [.ref this, .double p0, .double p1] 5 (lv := [(0, .ref this), (1, .double p0), (3, .double p1)]) (by simp [lg_sl, ab_cat, ab_cI, ab_cJ, ab_cD, ab_cF, ab_cA]) (by simp [lv_args, ab_cat, ab_cI, ab_cJ, ab_cD, ab_cF, ab_cA])
  rw [hls]
  have hl : lv_has ls 5 [(0, va_rf (some this)), (1, .double p0), (3, .double p1)] := hl
  unfold f_X2_product at hF
  show W p l e (ab_rm 0 0 0) s m _ below meth c s.heap [] 0 0 _ _
  refine lv_dload_n X.1 X.2.1 dX2_product_0 rfl (lv_at hl 1 rfl) ?_
  refine lv_dconst0 X.1 X.2.1 dX2_product_1 ?_
  refine lv_dcmp X.1 X.2.1 dX2_product_2 ?_
  refine lv_if_ne (tgt := 25) X.1 X.2.1 dX2_product_3 (by decide) (fun c1 => ?_) (fun c1 => ?_)
  · have hF := ab_pos c1 hF
    exact w_X2_product_25 X hr  S (lv_sub hl [0, 1, 2] rfl) hF
  · have hF := ab_neg (fun q => q c1) hF
    refine lv_dload_n X.1 X.2.1 dX2_product_6 rfl (lv_at hl 2 rfl) ?_
    refine ab_aload_n X dX2_product_7 rfl (lv_at hl 0 rfl) ?_
    refine ab_getD X S hF fi_2_0 lf_X2_9 dX2_product_8 (fun x2 hF => ?_)
    refine lv_dcmp X.1 X.2.1 dX2_product_11 ?_
    refine lv_if_gt (tgt := 50) X.1 X.2.1 dX2_product_12 (by decide) (fun c3 => ?_) (fun c3 => ?_)
    · have hF := ab_pos c3 hF
      exact w_X2_product_50 X hr  S (lv_sub hl [0] rfl) hF
    · have hF := ab_neg c3 hF
      refine lv_dload_n X.1 X.2.1 dX2_product_15 rfl (lv_at hl 2 rfl) ?_
      refine ab_aload_n X dX2_product_16 rfl (lv_at hl 0 rfl) ?_
      refine ab_getD X S hF fi_2_0 lf_X2_9 dX2_product_17 (fun x4 hF => ?_)
      refine lv_dneg X.1 X.2.1 dX2_product_20 ?_
      refine lv_dcmp X.1 X.2.1 dX2_product_21 ?_
      refine lv_if_lt (tgt := 50) X.1 X.2.1 dX2_product_22 (by decide) (fun c5 => ?_) (fun c5 => ?_)
      · have hF := ab_pos c5 hF
        exact w_X2_product_50 X hr  S (lv_sub hl [0] rfl) hF
      · have hF := ab_neg c5 hF
        exact w_X2_product_25 X hr  S (lv_sub hl [0, 1, 2] rfl) hF
def f_X2_quotient_62  (v0 : Option Nat) (h : Hp) : Option (UInt64 × Hp) :=
  (putZ h v0 2 1 1).bind fun h1 =>
  some (FP.dconst0, h1)
set_option maxHeartbeats 4000000 in
set_option maxRecDepth 100000 in
theorem w_X2_quotient_62 {p : Program} {l : Launch} {e : Env} {s : State} {m : MethodId} {args : Array Value} {below : List Frame} {meth : Method} {c : Code} {D : va_G} {cA : Nat → ClassId} {sz : Nat} {rr : UInt64} {hh : Hp}  (X : ab_X p s m args meth c cX2_quotient 6 RX2 D cA sz) (hr : meth.sig.returnType = (some .double))  {H : Heap} {locs : List Loc} {ls : Array Slot} {v0 : Option Nat} {h : Hp} (S : ab_H D cA sz h s H locs) (hl : lv_has ls 6 [(0, va_rf v0)]) (hF : f_X2_quotient_62 v0 h = some (rr, hh)) : W p l e (ab_rm 0 0 0) s m args below meth c H locs 0 0 (MQ below (ab_Q D cA sz (some (.double rr)) hh) args s 0 0 (fun q => sz ≤ q)) (F0 m 62 ls []) := by
  unfold f_X2_quotient_62 at hF
  refine ab_aload_n X dX2_quotient_62 rfl (lv_at hl 0 rfl) ?_
  refine lv_iconst (v := 1) X.1 X.2.1 dX2_quotient_63 (by decide) ?_
  refine ab_putZ X S hF fi_2_1 ci_2 (Or.inl rfl) rfl lf_X2_15 dX2_quotient_64 (fun h1 H1 locs1 hF S => ?_)
  refine lv_dconst0 X.1 X.2.1 dX2_quotient_67 ?_
  exact ab_dret X S hr hF dX2_quotient_68
def f_X2_quotient_69  (v1 : UInt64) (v3 : UInt64) (h : Hp) : Option (UInt64 × Hp) :=
  (fop (FP.ddiv v1 v3)).bind fun x1 =>
  some (x1, h)
set_option maxHeartbeats 4000000 in
set_option maxRecDepth 100000 in
theorem w_X2_quotient_69 {p : Program} {l : Launch} {e : Env} {s : State} {m : MethodId} {args : Array Value} {below : List Frame} {meth : Method} {c : Code} {D : va_G} {cA : Nat → ClassId} {sz : Nat} {rr : UInt64} {hh : Hp}  (X : ab_X p s m args meth c cX2_quotient 6 RX2 D cA sz) (hr : meth.sig.returnType = (some .double))  {H : Heap} {locs : List Loc} {ls : Array Slot} {v1 : UInt64} {v3 : UInt64} {h : Hp} (S : ab_H D cA sz h s H locs) (hl : lv_has ls 6 [(1, .double v1), (3, .double v3)]) (hF : f_X2_quotient_69 v1 v3 h = some (rr, hh)) : W p l e (ab_rm 0 0 0) s m args below meth c H locs 0 0 (MQ below (ab_Q D cA sz (some (.double rr)) hh) args s 0 0 (fun q => sz ≤ q)) (F0 m 69 ls []) := by
  unfold f_X2_quotient_69 at hF
  refine lv_dload_n X.1 X.2.1 dX2_quotient_69 rfl (lv_at hl 0 rfl) ?_
  refine lv_dload_n X.1 X.2.1 dX2_quotient_70 rfl (lv_at hl 1 rfl) ?_
  obtain ⟨x1, ev, ne, hF⟩ := ab_fopx hF
  refine lv_ddiv X.1 X.2.1 dX2_quotient_71 ne ?_
  rw [ev]
  exact ab_dret X S hr hF dX2_quotient_72
def f_X2_quotient_43  (v0 : Option Nat) (v1 : UInt64) (v3 : UInt64) (u0 : Int32) (h : Hp) : Option (UInt64 × Hp) :=
  if ¬ u0 = 0 then
    f_X2_quotient_62 v0 h
  else
    if ¬ (Op.cmpValue (FP.dcmp v1 FP.dconst0) CmpOp.l) = 0 then
      f_X2_quotient_69 v1 v3 h
    else
      if ¬ (Op.cmpValue (FP.dcmp v3 FP.dconst0) CmpOp.l) = 0 then
        f_X2_quotient_69 v1 v3 h
      else
        f_X2_quotient_62 v0 h
set_option maxHeartbeats 4000000 in
set_option maxRecDepth 100000 in
theorem w_X2_quotient_43 {p : Program} {l : Launch} {e : Env} {s : State} {m : MethodId} {args : Array Value} {below : List Frame} {meth : Method} {c : Code} {D : va_G} {cA : Nat → ClassId} {sz : Nat} {rr : UInt64} {hh : Hp}  (X : ab_X p s m args meth c cX2_quotient 6 RX2 D cA sz) (hr : meth.sig.returnType = (some .double))  {H : Heap} {locs : List Loc} {ls : Array Slot} {v0 : Option Nat} {v1 : UInt64} {v3 : UInt64} {u0 : Int32} {h : Hp} (S : ab_H D cA sz h s H locs) (hl : lv_has ls 6 [(0, va_rf v0), (1, .double v1), (3, .double v3)]) (hF : f_X2_quotient_43 v0 v1 v3 u0 h = some (rr, hh)) : W p l e (ab_rm 0 0 0) s m args below meth c H locs 0 0 (MQ below (ab_Q D cA sz (some (.double rr)) hh) args s 0 0 (fun q => sz ≤ q)) (F0 m 43 ls [.int u0]) := by
  unfold f_X2_quotient_43 at hF
  refine lv_istore (lv' := [(5, .int u0), (0, va_rf v0), (1, .double v1), (3, .double v3)]) X.1 X.2.1 dX2_quotient_43 hl (by decide) (by simp [ab_cat, ab_cI, ab_cJ, ab_cD, ab_cF]) (fun ls hl => ?_)
  refine lv_iload X.1 X.2.1 dX2_quotient_45 (lv_at hl 0 rfl) ?_
  refine lv_if_ne (tgt := 62) X.1 X.2.1 dX2_quotient_47 (by decide) (fun c1 => ?_) (fun c1 => ?_)
  · have hF := ab_pos c1 hF
    exact w_X2_quotient_62 X hr  S (lv_sub hl [1] rfl) hF
  · have hF := ab_neg (fun q => q c1) hF
    refine lv_dload_n X.1 X.2.1 dX2_quotient_50 rfl (lv_at hl 2 rfl) ?_
    refine lv_dconst0 X.1 X.2.1 dX2_quotient_51 ?_
    refine lv_dcmp X.1 X.2.1 dX2_quotient_52 ?_
    refine lv_if_ne (tgt := 69) X.1 X.2.1 dX2_quotient_53 (by decide) (fun c2 => ?_) (fun c2 => ?_)
    · have hF := ab_pos c2 hF
      exact w_X2_quotient_69 X hr  S (lv_sub hl [2, 3] rfl) hF
    · have hF := ab_neg (fun q => q c2) hF
      refine lv_dload_n X.1 X.2.1 dX2_quotient_56 rfl (lv_at hl 3 rfl) ?_
      refine lv_dconst0 X.1 X.2.1 dX2_quotient_57 ?_
      refine lv_dcmp X.1 X.2.1 dX2_quotient_58 ?_
      refine lv_if_ne (tgt := 69) X.1 X.2.1 dX2_quotient_59 (by decide) (fun c3 => ?_) (fun c3 => ?_)
      · have hF := ab_pos c3 hF
        exact w_X2_quotient_69 X hr  S (lv_sub hl [2, 3] rfl) hF
      · have hF := ab_neg (fun q => q c3) hF
        exact w_X2_quotient_62 X hr  S (lv_sub hl [1] rfl) hF
def f_X2_quotient_38  (v0 : Option Nat) (v1 : UInt64) (v3 : UInt64) (h : Hp) : Option (UInt64 × Hp) :=
  f_X2_quotient_43 v0 v1 v3 1 h
set_option maxHeartbeats 4000000 in
set_option maxRecDepth 100000 in
theorem w_X2_quotient_38 {p : Program} {l : Launch} {e : Env} {s : State} {m : MethodId} {args : Array Value} {below : List Frame} {meth : Method} {c : Code} {D : va_G} {cA : Nat → ClassId} {sz : Nat} {rr : UInt64} {hh : Hp}  (X : ab_X p s m args meth c cX2_quotient 6 RX2 D cA sz) (hr : meth.sig.returnType = (some .double))  {H : Heap} {locs : List Loc} {ls : Array Slot} {v0 : Option Nat} {v1 : UInt64} {v3 : UInt64} {h : Hp} (S : ab_H D cA sz h s H locs) (hl : lv_has ls 6 [(0, va_rf v0), (1, .double v1), (3, .double v3)]) (hF : f_X2_quotient_38 v0 v1 v3 h = some (rr, hh)) : W p l e (ab_rm 0 0 0) s m args below meth c H locs 0 0 (MQ below (ab_Q D cA sz (some (.double rr)) hh) args s 0 0 (fun q => sz ≤ q)) (F0 m 38 ls []) := by
  unfold f_X2_quotient_38 at hF
  refine lv_iconst (v := 1) X.1 X.2.1 dX2_quotient_38 (by decide) ?_
  refine lv_goto (tgt := 43) X.1 X.2.1 dX2_quotient_39 (by decide) ?_
  exact w_X2_quotient_43 X hr  S (lv_sub hl [0, 1, 2] rfl) hF
def f_X2_quotient_42  (v0 : Option Nat) (v1 : UInt64) (v3 : UInt64) (h : Hp) : Option (UInt64 × Hp) :=
  f_X2_quotient_43 v0 v1 v3 0 h
set_option maxHeartbeats 4000000 in
set_option maxRecDepth 100000 in
theorem w_X2_quotient_42 {p : Program} {l : Launch} {e : Env} {s : State} {m : MethodId} {args : Array Value} {below : List Frame} {meth : Method} {c : Code} {D : va_G} {cA : Nat → ClassId} {sz : Nat} {rr : UInt64} {hh : Hp}  (X : ab_X p s m args meth c cX2_quotient 6 RX2 D cA sz) (hr : meth.sig.returnType = (some .double))  {H : Heap} {locs : List Loc} {ls : Array Slot} {v0 : Option Nat} {v1 : UInt64} {v3 : UInt64} {h : Hp} (S : ab_H D cA sz h s H locs) (hl : lv_has ls 6 [(0, va_rf v0), (1, .double v1), (3, .double v3)]) (hF : f_X2_quotient_42 v0 v1 v3 h = some (rr, hh)) : W p l e (ab_rm 0 0 0) s m args below meth c H locs 0 0 (MQ below (ab_Q D cA sz (some (.double rr)) hh) args s 0 0 (fun q => sz ≤ q)) (F0 m 42 ls []) := by
  unfold f_X2_quotient_42 at hF
  refine lv_iconst (v := 0) X.1 X.2.1 dX2_quotient_42 (by decide) ?_
  exact w_X2_quotient_43 X hr  S (lv_sub hl [0, 1, 2] rfl) hF
def f_X2_quotient_19  (v0 : Option Nat) (v1 : UInt64) (v3 : UInt64) (h : Hp) : Option (UInt64 × Hp) :=
  (getD h v0 2 0).bind fun x1 =>
  if 0 < (Op.cmpValue (FP.dcmp v3 x1) CmpOp.l) then
    f_X2_quotient_38 v0 v1 v3 h
  else
    (getD h v0 2 0).bind fun x3 =>
    if 0 ≤ (Op.cmpValue (FP.dcmp v3 (FP.dneg x3)) CmpOp.g) then
      f_X2_quotient_42 v0 v1 v3 h
    else
      f_X2_quotient_38 v0 v1 v3 h
set_option maxHeartbeats 4000000 in
set_option maxRecDepth 100000 in
theorem w_X2_quotient_19 {p : Program} {l : Launch} {e : Env} {s : State} {m : MethodId} {args : Array Value} {below : List Frame} {meth : Method} {c : Code} {D : va_G} {cA : Nat → ClassId} {sz : Nat} {rr : UInt64} {hh : Hp}  (X : ab_X p s m args meth c cX2_quotient 6 RX2 D cA sz) (hr : meth.sig.returnType = (some .double))  {H : Heap} {locs : List Loc} {ls : Array Slot} {v0 : Option Nat} {v1 : UInt64} {v3 : UInt64} {h : Hp} (S : ab_H D cA sz h s H locs) (hl : lv_has ls 6 [(0, va_rf v0), (1, .double v1), (3, .double v3)]) (hF : f_X2_quotient_19 v0 v1 v3 h = some (rr, hh)) : W p l e (ab_rm 0 0 0) s m args below meth c H locs 0 0 (MQ below (ab_Q D cA sz (some (.double rr)) hh) args s 0 0 (fun q => sz ≤ q)) (F0 m 19 ls []) := by
  unfold f_X2_quotient_19 at hF
  refine lv_dload_n X.1 X.2.1 dX2_quotient_19 rfl (lv_at hl 2 rfl) ?_
  refine ab_aload_n X dX2_quotient_20 rfl (lv_at hl 0 rfl) ?_
  refine ab_getD X S hF fi_2_0 lf_X2_9 dX2_quotient_21 (fun x1 hF => ?_)
  refine lv_dcmp X.1 X.2.1 dX2_quotient_24 ?_
  refine lv_if_gt (tgt := 38) X.1 X.2.1 dX2_quotient_25 (by decide) (fun c2 => ?_) (fun c2 => ?_)
  · have hF := ab_pos c2 hF
    exact w_X2_quotient_38 X hr  S (lv_sub hl [0, 1, 2] rfl) hF
  · have hF := ab_neg c2 hF
    refine lv_dload_n X.1 X.2.1 dX2_quotient_28 rfl (lv_at hl 2 rfl) ?_
    refine ab_aload_n X dX2_quotient_29 rfl (lv_at hl 0 rfl) ?_
    refine ab_getD X S hF fi_2_0 lf_X2_9 dX2_quotient_30 (fun x3 hF => ?_)
    refine lv_dneg X.1 X.2.1 dX2_quotient_33 ?_
    refine lv_dcmp X.1 X.2.1 dX2_quotient_34 ?_
    refine lv_if_ge (tgt := 42) X.1 X.2.1 dX2_quotient_35 (by decide) (fun c4 => ?_) (fun c4 => ?_)
    · have hF := ab_pos c4 hF
      exact w_X2_quotient_42 X hr  S (lv_sub hl [0, 1, 2] rfl) hF
    · have hF := ab_neg c4 hF
      exact w_X2_quotient_38 X hr  S (lv_sub hl [0, 1, 2] rfl) hF
def f_X2_quotient (this : Nat) (p0 : UInt64) (p1 : UInt64) (h : Hp) : Option (UInt64 × Hp) :=
  (getD h (some this) 2 0).bind fun x1 =>
  if 0 < (Op.cmpValue (FP.dcmp p0 x1) CmpOp.l) then
    f_X2_quotient_19 (some this) p0 p1 h
  else
    (getD h (some this) 2 0).bind fun x3 =>
    if 0 ≤ (Op.cmpValue (FP.dcmp p0 (FP.dneg x3)) CmpOp.g) then
      f_X2_quotient_42 (some this) p0 p1 h
    else
      f_X2_quotient_19 (some this) p0 p1 h
theorem mi_X2_quotient : ab_MI yX2_quotient cX2_quotient 6 (some .double) 2 := ⟨lc_yX2_quotient, lz_RX2, by decide, by decide, by decide +kernel⟩
set_option maxHeartbeats 4000000 in
set_option maxRecDepth 100000 in
theorem c_X2_quotient (l : Launch) (D : va_G) (cA : Nat → ClassId) (sz : Nat) {this : Nat} {p0 : UInt64} {p1 : UInt64} {h hh : Hp} {rr : UInt64} (hF : f_X2_quotient this p0 p1 h = some (rr, hh)) : ab_C l D cA sz yX2_quotient cX2_quotient 6 (some .double) 0 0 0 [.ref this, .double p0, .double p1] h (some (.double rr)) hh := by
  refine Met.ofW (cc := cX2_quotient) (maxL := 6) (ret := (some .double)) (by decide) rfl ?_
  intro p e s m args below meth c s₁ B hml hv
  obtain ⟨rfl, hT, hR⟩ := hv
  have X : ab_X p s m _ meth c cX2_quotient 6 RX2 D cA sz := (ab_enter B hml hT hR).1
  have S := (ab_enter B hml hT hR).2
  have hr := B.returns
  obtain ⟨ls, hls, hl⟩ := ab_entry m [.ref this, .double p0, .double p1] 6 (lv := [(0, .ref this), (1, .double p0), (3, .double p1)]) (by simp [lg_sl, ab_cat, ab_cI, ab_cJ, ab_cD, ab_cF, ab_cA]) (by simp [lv_args, ab_cat, ab_cI, ab_cJ, ab_cD, ab_cF, ab_cA])
  rw [hls]
  have hl : lv_has ls 6 [(0, va_rf (some this)), (1, .double p0), (3, .double p1)] := hl
  unfold f_X2_quotient at hF
  show W p l e (ab_rm 0 0 0) s m _ below meth c s.heap [] 0 0 _ _
  refine lv_dload_n X.1 X.2.1 dX2_quotient_0 rfl (lv_at hl 1 rfl) ?_
  refine ab_aload_n X dX2_quotient_1 rfl (lv_at hl 0 rfl) ?_
  refine ab_getD X S hF fi_2_0 lf_X2_9 dX2_quotient_2 (fun x1 hF => ?_)
  refine lv_dcmp X.1 X.2.1 dX2_quotient_5 ?_
  refine lv_if_gt (tgt := 19) X.1 X.2.1 dX2_quotient_6 (by decide) (fun c2 => ?_) (fun c2 => ?_)
  · have hF := ab_pos c2 hF
    exact w_X2_quotient_19 X hr  S (lv_sub hl [0, 1, 2] rfl) hF
  · have hF := ab_neg c2 hF
    refine lv_dload_n X.1 X.2.1 dX2_quotient_9 rfl (lv_at hl 1 rfl) ?_
    refine ab_aload_n X dX2_quotient_10 rfl (lv_at hl 0 rfl) ?_
    refine ab_getD X S hF fi_2_0 lf_X2_9 dX2_quotient_11 (fun x3 hF => ?_)
    refine lv_dneg X.1 X.2.1 dX2_quotient_14 ?_
    refine lv_dcmp X.1 X.2.1 dX2_quotient_15 ?_
    refine lv_if_ge (tgt := 42) X.1 X.2.1 dX2_quotient_16 (by decide) (fun c4 => ?_) (fun c4 => ?_)
    · have hF := ab_pos c4 hF
      exact w_X2_quotient_42 X hr  S (lv_sub hl [0, 1, 2] rfl) hF
    · have hF := ab_neg c4 hF
      exact w_X2_quotient_19 X hr  S (lv_sub hl [0, 1, 2] rfl) hF
def f_X2_lesser_37  (u0 : UInt64) (h : Hp) : Option (UInt64 × Hp) :=
  some (u0, h)
set_option maxHeartbeats 4000000 in
set_option maxRecDepth 100000 in
theorem w_X2_lesser_37 {p : Program} {l : Launch} {e : Env} {s : State} {m : MethodId} {args : Array Value} {below : List Frame} {meth : Method} {c : Code} {D : va_G} {cA : Nat → ClassId} {sz : Nat} {rr : UInt64} {hh : Hp}  (X : ab_X p s m args meth c cX2_lesser 5 RX2 D cA sz) (hr : meth.sig.returnType = (some .double))  {H : Heap} {locs : List Loc} {ls : Array Slot} {u0 : UInt64} {h : Hp} (S : ab_H D cA sz h s H locs) (hl : lv_has ls 5 []) (hF : f_X2_lesser_37 u0 h = some (rr, hh)) : W p l e (ab_rm 0 0 0) s m args below meth c H locs 0 0 (MQ below (ab_Q D cA sz (some (.double rr)) hh) args s 0 0 (fun q => sz ≤ q)) (F0 m 37 ls [.double u0]) := by
  unfold f_X2_lesser_37 at hF
  exact ab_dret X S hr hF dX2_lesser_37
def f_X2_lesser_26  (v1 : UInt64) (v3 : UInt64) (h : Hp) : Option (UInt64 × Hp) :=
  if 0 < (Op.cmpValue (FP.dcmp v1 v3) CmpOp.g) then
    f_X2_lesser_37 v3 h
  else
    f_X2_lesser_37 v1 h
set_option maxHeartbeats 4000000 in
set_option maxRecDepth 100000 in
theorem w_X2_lesser_26 {p : Program} {l : Launch} {e : Env} {s : State} {m : MethodId} {args : Array Value} {below : List Frame} {meth : Method} {c : Code} {D : va_G} {cA : Nat → ClassId} {sz : Nat} {rr : UInt64} {hh : Hp}  (X : ab_X p s m args meth c cX2_lesser 5 RX2 D cA sz) (hr : meth.sig.returnType = (some .double))  {H : Heap} {locs : List Loc} {ls : Array Slot} {v1 : UInt64} {v3 : UInt64} {h : Hp} (S : ab_H D cA sz h s H locs) (hl : lv_has ls 5 [(1, .double v1), (3, .double v3)]) (hF : f_X2_lesser_26 v1 v3 h = some (rr, hh)) : W p l e (ab_rm 0 0 0) s m args below meth c H locs 0 0 (MQ below (ab_Q D cA sz (some (.double rr)) hh) args s 0 0 (fun q => sz ≤ q)) (F0 m 26 ls []) := by
  unfold f_X2_lesser_26 at hF
  refine lv_dload_n X.1 X.2.1 dX2_lesser_26 rfl (lv_at hl 0 rfl) ?_
  refine lv_dload_n X.1 X.2.1 dX2_lesser_27 rfl (lv_at hl 1 rfl) ?_
  refine lv_dcmp X.1 X.2.1 dX2_lesser_28 ?_
  refine lv_if_gt (tgt := 36) X.1 X.2.1 dX2_lesser_29 (by decide) (fun c1 => ?_) (fun c1 => ?_)
  · have hF := ab_pos c1 hF
    refine lv_dload_n X.1 X.2.1 dX2_lesser_36 rfl (lv_at hl 1 rfl) ?_
    exact w_X2_lesser_37 X hr  S (lv_sub hl [] rfl) hF
  · have hF := ab_neg c1 hF
    refine lv_dload_n X.1 X.2.1 dX2_lesser_32 rfl (lv_at hl 0 rfl) ?_
    refine lv_goto (tgt := 37) X.1 X.2.1 dX2_lesser_33 (by decide) ?_
    exact w_X2_lesser_37 X hr  S (lv_sub hl [] rfl) hF
def f_X2_lesser_25  (u0 : UInt64) (h : Hp) : Option (UInt64 × Hp) :=
  some (u0, h)
set_option maxHeartbeats 4000000 in
set_option maxRecDepth 100000 in
theorem w_X2_lesser_25 {p : Program} {l : Launch} {e : Env} {s : State} {m : MethodId} {args : Array Value} {below : List Frame} {meth : Method} {c : Code} {D : va_G} {cA : Nat → ClassId} {sz : Nat} {rr : UInt64} {hh : Hp}  (X : ab_X p s m args meth c cX2_lesser 5 RX2 D cA sz) (hr : meth.sig.returnType = (some .double))  {H : Heap} {locs : List Loc} {ls : Array Slot} {u0 : UInt64} {h : Hp} (S : ab_H D cA sz h s H locs) (hl : lv_has ls 5 []) (hF : f_X2_lesser_25 u0 h = some (rr, hh)) : W p l e (ab_rm 0 0 0) s m args below meth c H locs 0 0 (MQ below (ab_Q D cA sz (some (.double rr)) hh) args s 0 0 (fun q => sz ≤ q)) (F0 m 25 ls [.double u0]) := by
  unfold f_X2_lesser_25 at hF
  exact ab_dret X S hr hF dX2_lesser_25
def f_X2_lesser (this : Nat) (p0 : UInt64) (p1 : UInt64) (h : Hp) : Option (UInt64 × Hp) :=
  if ¬ (Op.cmpValue (FP.dcmp p0 FP.dconst0) CmpOp.l) = 0 then
    f_X2_lesser_26 p0 p1 h
  else
    if ¬ (Op.cmpValue (FP.dcmp p1 FP.dconst0) CmpOp.l) = 0 then
      f_X2_lesser_26 p0 p1 h
    else
      (fop (FP.ddiv FP.dconst1 p0)).bind fun x3 =>
      if 0 ≤ (Op.cmpValue (FP.dcmp x3 FP.dconst0) CmpOp.g) then
        f_X2_lesser_25 p1 h
      else
        f_X2_lesser_25 p0 h
theorem mi_X2_lesser : ab_MI yX2_lesser cX2_lesser 5 (some .double) 2 := ⟨lc_yX2_lesser, lz_RX2, by decide, by decide, by decide +kernel⟩
set_option maxHeartbeats 4000000 in
set_option maxRecDepth 100000 in
theorem c_X2_lesser (l : Launch) (D : va_G) (cA : Nat → ClassId) (sz : Nat) {this : Nat} {p0 : UInt64} {p1 : UInt64} {h hh : Hp} {rr : UInt64} (hF : f_X2_lesser this p0 p1 h = some (rr, hh)) : ab_C l D cA sz yX2_lesser cX2_lesser 5 (some .double) 0 0 0 [.ref this, .double p0, .double p1] h (some (.double rr)) hh := by
  refine Met.ofW (cc := cX2_lesser) (maxL := 5) (ret := (some .double)) (by decide) rfl ?_
  intro p e s m args below meth c s₁ B hml hv
  obtain ⟨rfl, hT, hR⟩ := hv
  have X : ab_X p s m _ meth c cX2_lesser 5 RX2 D cA sz := (ab_enter B hml hT hR).1
  have S := (ab_enter B hml hT hR).2
  have hr := B.returns
  obtain ⟨ls, hls, hl⟩ := ab_entry m [.ref this, .double p0, .double p1] 5 (lv := [(0, .ref this), (1, .double p0), (3, .double p1)]) (by simp [lg_sl, ab_cat, ab_cI, ab_cJ, ab_cD, ab_cF, ab_cA]) (by simp [lv_args, ab_cat, ab_cI, ab_cJ, ab_cD, ab_cF, ab_cA])
  rw [hls]
  have hl : lv_has ls 5 [(0, va_rf (some this)), (1, .double p0), (3, .double p1)] := hl
  unfold f_X2_lesser at hF
  show W p l e (ab_rm 0 0 0) s m _ below meth c s.heap [] 0 0 _ _
  refine lv_dload_n X.1 X.2.1 dX2_lesser_0 rfl (lv_at hl 1 rfl) ?_
  refine lv_dconst0 X.1 X.2.1 dX2_lesser_1 ?_
  refine lv_dcmp X.1 X.2.1 dX2_lesser_2 ?_
  refine lv_if_ne (tgt := 26) X.1 X.2.1 dX2_lesser_3 (by decide) (fun c1 => ?_) (fun c1 => ?_)
  · have hF := ab_pos c1 hF
    exact w_X2_lesser_26 X hr  S (lv_sub hl [1, 2] rfl) hF
  · have hF := ab_neg (fun q => q c1) hF
    refine lv_dload_n X.1 X.2.1 dX2_lesser_6 rfl (lv_at hl 2 rfl) ?_
    refine lv_dconst0 X.1 X.2.1 dX2_lesser_7 ?_
    refine lv_dcmp X.1 X.2.1 dX2_lesser_8 ?_
    refine lv_if_ne (tgt := 26) X.1 X.2.1 dX2_lesser_9 (by decide) (fun c2 => ?_) (fun c2 => ?_)
    · have hF := ab_pos c2 hF
      exact w_X2_lesser_26 X hr  S (lv_sub hl [1, 2] rfl) hF
    · have hF := ab_neg (fun q => q c2) hF
      refine lv_dconst1 X.1 X.2.1 dX2_lesser_12 ?_
      refine lv_dload_n X.1 X.2.1 dX2_lesser_13 rfl (lv_at hl 1 rfl) ?_
      obtain ⟨x3, ev, ne, hF⟩ := ab_fopx hF
      refine lv_ddiv X.1 X.2.1 dX2_lesser_14 ne ?_
      rw [ev]
      refine lv_dconst0 X.1 X.2.1 dX2_lesser_15 ?_
      refine lv_dcmp X.1 X.2.1 dX2_lesser_16 ?_
      refine lv_if_ge (tgt := 24) X.1 X.2.1 dX2_lesser_17 (by decide) (fun c4 => ?_) (fun c4 => ?_)
      · have hF := ab_pos c4 hF
        refine lv_dload_n X.1 X.2.1 dX2_lesser_24 rfl (lv_at hl 2 rfl) ?_
        exact w_X2_lesser_25 X hr  S (lv_sub hl [] rfl) hF
      · have hF := ab_neg c4 hF
        refine lv_dload_n X.1 X.2.1 dX2_lesser_20 rfl (lv_at hl 1 rfl) ?_
        refine lv_goto (tgt := 25) X.1 X.2.1 dX2_lesser_21 (by decide) ?_
        exact w_X2_lesser_25 X hr  S (lv_sub hl [] rfl) hF
def f_X2_greater_37  (u0 : UInt64) (h : Hp) : Option (UInt64 × Hp) :=
  some (u0, h)
set_option maxHeartbeats 4000000 in
set_option maxRecDepth 100000 in
theorem w_X2_greater_37 {p : Program} {l : Launch} {e : Env} {s : State} {m : MethodId} {args : Array Value} {below : List Frame} {meth : Method} {c : Code} {D : va_G} {cA : Nat → ClassId} {sz : Nat} {rr : UInt64} {hh : Hp}  (X : ab_X p s m args meth c cX2_greater 5 RX2 D cA sz) (hr : meth.sig.returnType = (some .double))  {H : Heap} {locs : List Loc} {ls : Array Slot} {u0 : UInt64} {h : Hp} (S : ab_H D cA sz h s H locs) (hl : lv_has ls 5 []) (hF : f_X2_greater_37 u0 h = some (rr, hh)) : W p l e (ab_rm 0 0 0) s m args below meth c H locs 0 0 (MQ below (ab_Q D cA sz (some (.double rr)) hh) args s 0 0 (fun q => sz ≤ q)) (F0 m 37 ls [.double u0]) := by
  unfold f_X2_greater_37 at hF
  exact ab_dret X S hr hF dX2_greater_37
def f_X2_greater_26  (v1 : UInt64) (v3 : UInt64) (h : Hp) : Option (UInt64 × Hp) :=
  if (Op.cmpValue (FP.dcmp v1 v3) CmpOp.l) < 0 then
    f_X2_greater_37 v3 h
  else
    f_X2_greater_37 v1 h
set_option maxHeartbeats 4000000 in
set_option maxRecDepth 100000 in
theorem w_X2_greater_26 {p : Program} {l : Launch} {e : Env} {s : State} {m : MethodId} {args : Array Value} {below : List Frame} {meth : Method} {c : Code} {D : va_G} {cA : Nat → ClassId} {sz : Nat} {rr : UInt64} {hh : Hp}  (X : ab_X p s m args meth c cX2_greater 5 RX2 D cA sz) (hr : meth.sig.returnType = (some .double))  {H : Heap} {locs : List Loc} {ls : Array Slot} {v1 : UInt64} {v3 : UInt64} {h : Hp} (S : ab_H D cA sz h s H locs) (hl : lv_has ls 5 [(1, .double v1), (3, .double v3)]) (hF : f_X2_greater_26 v1 v3 h = some (rr, hh)) : W p l e (ab_rm 0 0 0) s m args below meth c H locs 0 0 (MQ below (ab_Q D cA sz (some (.double rr)) hh) args s 0 0 (fun q => sz ≤ q)) (F0 m 26 ls []) := by
  unfold f_X2_greater_26 at hF
  refine lv_dload_n X.1 X.2.1 dX2_greater_26 rfl (lv_at hl 0 rfl) ?_
  refine lv_dload_n X.1 X.2.1 dX2_greater_27 rfl (lv_at hl 1 rfl) ?_
  refine lv_dcmp X.1 X.2.1 dX2_greater_28 ?_
  refine lv_if_lt (tgt := 36) X.1 X.2.1 dX2_greater_29 (by decide) (fun c1 => ?_) (fun c1 => ?_)
  · have hF := ab_pos c1 hF
    refine lv_dload_n X.1 X.2.1 dX2_greater_36 rfl (lv_at hl 1 rfl) ?_
    exact w_X2_greater_37 X hr  S (lv_sub hl [] rfl) hF
  · have hF := ab_neg c1 hF
    refine lv_dload_n X.1 X.2.1 dX2_greater_32 rfl (lv_at hl 0 rfl) ?_
    refine lv_goto (tgt := 37) X.1 X.2.1 dX2_greater_33 (by decide) ?_
    exact w_X2_greater_37 X hr  S (lv_sub hl [] rfl) hF
def f_X2_greater_25  (u0 : UInt64) (h : Hp) : Option (UInt64 × Hp) :=
  some (u0, h)
set_option maxHeartbeats 4000000 in
set_option maxRecDepth 100000 in
theorem w_X2_greater_25 {p : Program} {l : Launch} {e : Env} {s : State} {m : MethodId} {args : Array Value} {below : List Frame} {meth : Method} {c : Code} {D : va_G} {cA : Nat → ClassId} {sz : Nat} {rr : UInt64} {hh : Hp}  (X : ab_X p s m args meth c cX2_greater 5 RX2 D cA sz) (hr : meth.sig.returnType = (some .double))  {H : Heap} {locs : List Loc} {ls : Array Slot} {u0 : UInt64} {h : Hp} (S : ab_H D cA sz h s H locs) (hl : lv_has ls 5 []) (hF : f_X2_greater_25 u0 h = some (rr, hh)) : W p l e (ab_rm 0 0 0) s m args below meth c H locs 0 0 (MQ below (ab_Q D cA sz (some (.double rr)) hh) args s 0 0 (fun q => sz ≤ q)) (F0 m 25 ls [.double u0]) := by
  unfold f_X2_greater_25 at hF
  exact ab_dret X S hr hF dX2_greater_25
def f_X2_greater (this : Nat) (p0 : UInt64) (p1 : UInt64) (h : Hp) : Option (UInt64 × Hp) :=
  if ¬ (Op.cmpValue (FP.dcmp p0 FP.dconst0) CmpOp.l) = 0 then
    f_X2_greater_26 p0 p1 h
  else
    if ¬ (Op.cmpValue (FP.dcmp p1 FP.dconst0) CmpOp.l) = 0 then
      f_X2_greater_26 p0 p1 h
    else
      (fop (FP.ddiv FP.dconst1 p0)).bind fun x3 =>
      if 0 ≤ (Op.cmpValue (FP.dcmp x3 FP.dconst0) CmpOp.g) then
        f_X2_greater_25 p0 h
      else
        f_X2_greater_25 p1 h
theorem mi_X2_greater : ab_MI yX2_greater cX2_greater 5 (some .double) 2 := ⟨lc_yX2_greater, lz_RX2, by decide, by decide, by decide +kernel⟩
set_option maxHeartbeats 4000000 in
set_option maxRecDepth 100000 in
theorem c_X2_greater (l : Launch) (D : va_G) (cA : Nat → ClassId) (sz : Nat) {this : Nat} {p0 : UInt64} {p1 : UInt64} {h hh : Hp} {rr : UInt64} (hF : f_X2_greater this p0 p1 h = some (rr, hh)) : ab_C l D cA sz yX2_greater cX2_greater 5 (some .double) 0 0 0 [.ref this, .double p0, .double p1] h (some (.double rr)) hh := by
  refine Met.ofW (cc := cX2_greater) (maxL := 5) (ret := (some .double)) (by decide) rfl ?_
  intro p e s m args below meth c s₁ B hml hv
  obtain ⟨rfl, hT, hR⟩ := hv
  have X : ab_X p s m _ meth c cX2_greater 5 RX2 D cA sz := (ab_enter B hml hT hR).1
  have S := (ab_enter B hml hT hR).2
  have hr := B.returns
  obtain ⟨ls, hls, hl⟩ := ab_entry m [.ref this, .double p0, .double p1] 5 (lv := [(0, .ref this), (1, .double p0), (3, .double p1)]) (by simp [lg_sl, ab_cat, ab_cI, ab_cJ, ab_cD, ab_cF, ab_cA]) (by simp [lv_args, ab_cat, ab_cI, ab_cJ, ab_cD, ab_cF, ab_cA])
  rw [hls]
  have hl : lv_has ls 5 [(0, va_rf (some this)), (1, .double p0), (3, .double p1)] := hl
  unfold f_X2_greater at hF
  show W p l e (ab_rm 0 0 0) s m _ below meth c s.heap [] 0 0 _ _
  refine lv_dload_n X.1 X.2.1 dX2_greater_0 rfl (lv_at hl 1 rfl) ?_
  refine lv_dconst0 X.1 X.2.1 dX2_greater_1 ?_
  refine lv_dcmp X.1 X.2.1 dX2_greater_2 ?_
  refine lv_if_ne (tgt := 26) X.1 X.2.1 dX2_greater_3 (by decide) (fun c1 => ?_) (fun c1 => ?_)
  · have hF := ab_pos c1 hF
    exact w_X2_greater_26 X hr  S (lv_sub hl [1, 2] rfl) hF
  · have hF := ab_neg (fun q => q c1) hF
    refine lv_dload_n X.1 X.2.1 dX2_greater_6 rfl (lv_at hl 2 rfl) ?_
    refine lv_dconst0 X.1 X.2.1 dX2_greater_7 ?_
    refine lv_dcmp X.1 X.2.1 dX2_greater_8 ?_
    refine lv_if_ne (tgt := 26) X.1 X.2.1 dX2_greater_9 (by decide) (fun c2 => ?_) (fun c2 => ?_)
    · have hF := ab_pos c2 hF
      exact w_X2_greater_26 X hr  S (lv_sub hl [1, 2] rfl) hF
    · have hF := ab_neg (fun q => q c2) hF
      refine lv_dconst1 X.1 X.2.1 dX2_greater_12 ?_
      refine lv_dload_n X.1 X.2.1 dX2_greater_13 rfl (lv_at hl 1 rfl) ?_
      obtain ⟨x3, ev, ne, hF⟩ := ab_fopx hF
      refine lv_ddiv X.1 X.2.1 dX2_greater_14 ne ?_
      rw [ev]
      refine lv_dconst0 X.1 X.2.1 dX2_greater_15 ?_
      refine lv_dcmp X.1 X.2.1 dX2_greater_16 ?_
      refine lv_if_ge (tgt := 24) X.1 X.2.1 dX2_greater_17 (by decide) (fun c4 => ?_) (fun c4 => ?_)
      · have hF := ab_pos c4 hF
        refine lv_dload_n X.1 X.2.1 dX2_greater_24 rfl (lv_at hl 1 rfl) ?_
        exact w_X2_greater_25 X hr  S (lv_sub hl [] rfl) hF
      · have hF := ab_neg c4 hF
        refine lv_dload_n X.1 X.2.1 dX2_greater_20 rfl (lv_at hl 2 rfl) ?_
        refine lv_goto (tgt := 25) X.1 X.2.1 dX2_greater_21 (by decide) ?_
        exact w_X2_greater_25 X hr  S (lv_sub hl [] rfl) hF
def f_X2_power_6  : Nat → UInt64 → Int32 → UInt64 → Int32 → Hp → Option (UInt64 × Hp)
  | 0, _, _, _, _, _ => none
  | n + 1, v1, v3, v4, v6, h => if v3 ≤ v6 then
      some (v4, h)
    else
      (fop (FP.dmul v4 v1)).bind fun x2 =>
      f_X2_power_6 n v1 v3 x2 (v6 + 1) h
set_option maxHeartbeats 4000000 in
set_option maxRecDepth 100000 in
theorem w_X2_power_6 {p : Program} {l : Launch} {e : Env} {s : State} {m : MethodId} {args : Array Value} {below : List Frame} {meth : Method} {c : Code} {D : va_G} {cA : Nat → ClassId} {sz : Nat} {rr : UInt64} {hh : Hp}  (X : ab_X p s m args meth c cX2_power 7 RX2 D cA sz) (hr : meth.sig.returnType = (some .double))  (n : Nat) : ∀ (v1 : UInt64) (v3 : Int32) (v4 : UInt64) (v6 : Int32) (h : Hp) (H : Heap) (locs : List Loc) (ls : Array Slot), ab_H D cA sz h s H locs → lv_has ls 7 [(1, .double v1), (3, .int v3), (4, .double v4), (6, .int v6)] → f_X2_power_6 n v1 v3 v4 v6 h = some (rr, hh) → W p l e (ab_rm 0 0 0) s m args below meth c H locs 0 0 (MQ below (ab_Q D cA sz (some (.double rr)) hh) args s 0 0 (fun q => sz ≤ q)) (F0 m 6 ls []) := by
  induction n with
  | zero => intro v1 v3 v4 v6 h H locs ls S hl hF; cases hF
  | succ n ih =>
    intro v1 v3 v4 v6 h H locs ls S hl hF
    rw [f_X2_power_6] at hF
    refine lv_iload X.1 X.2.1 dX2_power_6 (lv_at hl 3 rfl) ?_
    refine lv_iload_n X.1 X.2.1 dX2_power_8 rfl (lv_at hl 1 rfl) ?_
    refine lv_icmp_ge (tgt := 24) X.1 X.2.1 dX2_power_9 (by decide) (fun c1 => ?_) (fun c1 => ?_)
    · have hF := ab_pos c1 hF
      refine lv_dload X.1 X.2.1 dX2_power_24 (lv_at hl 2 rfl) ?_
      exact ab_dret X S hr hF dX2_power_26
    · have hF := ab_neg c1 hF
      refine lv_dload X.1 X.2.1 dX2_power_12 (lv_at hl 2 rfl) ?_
      refine lv_dload_n X.1 X.2.1 dX2_power_14 rfl (lv_at hl 0 rfl) ?_
      obtain ⟨x2, ev, ne, hF⟩ := ab_fopx hF
      refine lv_dmul X.1 X.2.1 dX2_power_15 ne ?_
      rw [ev]
      refine lv_dstore (lv' := [(4, .double x2), (1, .double v1), (3, .int v3), (6, .int v6)]) X.1 X.2.1 dX2_power_16 hl (by decide) (by simp [ab_cat, ab_cI, ab_cJ, ab_cD, ab_cF]) (fun ls hl => ?_)
      refine lv_iinc (v := v6 + 1) (lv' := [(6, .int (v6 + 1)), (4, .double x2), (1, .double v1), (3, .int v3)]) X.1 X.2.1 dX2_power_18 hl (k := 3) rfl (by rfl) (by decide) (by simp [ab_cat, ab_cI, ab_cJ, ab_cD, ab_cF]) (fun ls hl => ?_)
      refine lv_goto (tgt := 6) X.1 X.2.1 dX2_power_21 (by decide) ?_
      exact ih _ _ _ _ _ _ _ _ S (lv_sub hl [2, 3, 1, 0] rfl) hF
def f_X2_power (this : Nat) (p0 : UInt64) (p1 : Int32) (h : Hp) : Option (UInt64 × Hp) :=
  f_X2_power_6 fuelN p0 p1 FP.dconst1 0 h
theorem mi_X2_power : ab_MI yX2_power cX2_power 7 (some .double) 2 := ⟨lc_yX2_power, lz_RX2, by decide, by decide, by decide +kernel⟩
set_option maxHeartbeats 4000000 in
set_option maxRecDepth 100000 in
theorem c_X2_power (l : Launch) (D : va_G) (cA : Nat → ClassId) (sz : Nat) {this : Nat} {p0 : UInt64} {p1 : Int32} {h hh : Hp} {rr : UInt64} (hF : f_X2_power this p0 p1 h = some (rr, hh)) : ab_C l D cA sz yX2_power cX2_power 7 (some .double) 0 0 0 [.ref this, .double p0, .int p1] h (some (.double rr)) hh := by
  refine Met.ofW (cc := cX2_power) (maxL := 7) (ret := (some .double)) (by decide) rfl ?_
  intro p e s m args below meth c s₁ B hml hv
  obtain ⟨rfl, hT, hR⟩ := hv
  have X : ab_X p s m _ meth c cX2_power 7 RX2 D cA sz := (ab_enter B hml hT hR).1
  have S := (ab_enter B hml hT hR).2
  have hr := B.returns
  obtain ⟨ls, hls, hl⟩ := ab_entry m [.ref this, .double p0, .int p1] 7 (lv := [(0, .ref this), (1, .double p0), (3, .int p1)]) (by simp [lg_sl, ab_cat, ab_cI, ab_cJ, ab_cD, ab_cF, ab_cA]) (by simp [lv_args, ab_cat, ab_cI, ab_cJ, ab_cD, ab_cF, ab_cA])
  rw [hls]
  have hl : lv_has ls 7 [(0, va_rf (some this)), (1, .double p0), (3, .int p1)] := hl
  unfold f_X2_power at hF
  show W p l e (ab_rm 0 0 0) s m _ below meth c s.heap [] 0 0 _ _
  refine lv_dconst1 X.1 X.2.1 dX2_power_0 ?_
  refine lv_dstore (lv' := [(4, .double FP.dconst1), (0, va_rf (some this)), (1, .double p0), (3, .int p1)]) X.1 X.2.1 dX2_power_1 hl (by decide) (by simp [ab_cat, ab_cI, ab_cJ, ab_cD, ab_cF]) (fun ls hl => ?_)
  refine lv_iconst (v := 0) X.1 X.2.1 dX2_power_3 (by decide) ?_
  refine lv_istore (lv' := [(6, .int 0), (4, .double FP.dconst1), (0, va_rf (some this)), (1, .double p0), (3, .int p1)]) X.1 X.2.1 dX2_power_4 hl (by decide) (by simp [ab_cat, ab_cI, ab_cJ, ab_cD, ab_cF]) (fun ls hl => ?_)
  exact w_X2_power_6 X hr  fuelN _ _ _ _ _ _ _ _ S (lv_sub hl [3, 4, 1, 0] rfl) hF
def f_X3_init (this : Nat) (p0 : Int32) (h : Hp) : Option (Unit × Hp) :=
  bnd (newa h 10 p0) fun x2 h1 =>
  (putR h1 (some this) 3 0 x2).bind fun h3 =>
  bnd (newa h3 12 p0) fun x5 h4 =>
  (putR h4 (some this) 3 1 x5).bind fun h6 =>
  some ((), h6)
theorem mi_X3_init : ab_MI yX3_init cX3_init 2 none 1 := ⟨lc_yX3_init, lz_RX3, by decide, by decide, by decide +kernel⟩
set_option maxHeartbeats 4000000 in
set_option maxRecDepth 100000 in
theorem c_X3_init (l : Launch) (D : va_G) (cA : Nat → ClassId) (sz : Nat) {this : Nat} {p0 : Int32} {h hh : Hp}  (hF : f_X3_init this p0 h = some ((), hh)) : ab_C l D cA sz yX3_init cX3_init 2 none 1 2 2000 [.ref this, .int p0] h none hh := by
  refine Met.ofW (cc := cX3_init) (maxL := 2) (ret := none) (by decide) rfl ?_
  intro p e s m args below meth c s₁ B hml hv
  obtain ⟨rfl, hT, hR⟩ := hv
  have X : ab_X p s m _ meth c cX3_init 2 RX3 D cA sz := (ab_enter B hml hT hR).1
  have S := (ab_enter B hml hT hR).2
  have hr := B.returns
  obtain ⟨ls, hls, hl⟩ := ab_entry m [.ref this, .int p0] 2 (lv := [(0, .ref this), (1, .int p0)]) (by simp [lg_sl, ab_cat, ab_cI, ab_cJ, ab_cD, ab_cF, ab_cA]) (by simp [lv_args, ab_cat, ab_cI, ab_cJ, ab_cD, ab_cF, ab_cA])
  rw [hls]
  have hl : lv_has ls 2 [(0, va_rf (some this)), (1, .int p0)] := hl
  have hin : meth.name = "<init>" := (name_of_methodNamed B.named B.method).1
  unfold f_X3_init at hF
  show W p l e (ab_rm 1 2 2000) s m _ below meth c s.heap [] 0 0 _ _
  refine ab_aload_n X dX3_init_0 rfl (lv_at hl 0 rfl) ?_
  refine ab_objInit X lm_X3_1 hl.1 (by decide) (by simp [ab_cat, ab_cI, ab_cJ, ab_cD, ab_cF]) dX3_init_1 ?_
  refine ab_aload_n X dX3_init_4 rfl (lv_at hl 0 rfl) ?_
  refine lv_iload_n X.1 X.2.1 dX3_init_5 rfl (lv_at hl 1 rfl) ?_
  refine ab_newD X S hF la_double (by decide) (by decide) dX3_init_6 (fun x2 h1 H1 hF S => ?_)
  refine ab_putR X S hF fi_3_0 ci_3 (Or.inr ⟨rfl, hin, rfl⟩) (fun q => by cases q <;> rfl) (fun q => by cases q <;> rfl) lf_X3_7 dX3_init_8 (fun h3 H1 locs1 hF S => ?_)
  refine ab_aload_n X dX3_init_11 rfl (lv_at hl 0 rfl) ?_
  refine lv_iload_n X.1 X.2.1 dX3_init_12 rfl (lv_at hl 1 rfl) ?_
  refine ab_newZ X S hF la_boolean (by decide) (by decide) dX3_init_13 (fun x5 h4 H1 hF S => ?_)
  refine ab_putR X S hF fi_3_1 ci_3 (Or.inr ⟨rfl, hin, rfl⟩) (fun q => by cases q <;> rfl) (fun q => by cases q <;> rfl) lf_X3_13 dX3_init_15 (fun h6 H1 locs1 hF S => ?_)
  refine W.widen (k := 2) (n := 2000) (Nat.le_of_ble_eq_true rfl) (Nat.le_of_ble_eq_true rfl) ?_
  exact ab_vret X S hr hF dX3_init_18
def f_X3_copy_2  : Nat → Option Nat → Option Nat → Int32 → Hp → Option (Unit × Hp)
  | 0, _, _, _, _ => none
  | n + 1, v0, v1, v2, h => (getR h v0 3 0).bind fun x1 =>
    (alen h x1 10).bind fun x2 =>
    if x2 ≤ v2 then
      some ((), h)
    else
      (getR h v0 3 0).bind fun x4 =>
      (getR h v1 3 0).bind fun x5 =>
      (aldD h x5 v2).bind fun x6 =>
      (astD h x4 v2 x6).bind fun h7 =>
      (getR h7 v0 3 1).bind fun x8 =>
      (getR h7 v1 3 1).bind fun x9 =>
      (aldI h7 x9 12 v2).bind fun x10 =>
      (astZ h7 x8 v2 x10).bind fun h11 =>
      f_X3_copy_2 n v0 v1 (v2 + 1) h11
set_option maxHeartbeats 4000000 in
set_option maxRecDepth 100000 in
theorem w_X3_copy_2 {p : Program} {l : Launch} {e : Env} {s : State} {m : MethodId} {args : Array Value} {below : List Frame} {meth : Method} {c : Code} {D : va_G} {cA : Nat → ClassId} {sz : Nat}  {hh : Hp}  (X : ab_X p s m args meth c cX3_copy 3 RX3 D cA sz) (hr : meth.sig.returnType = none)  (n : Nat) : ∀ (v0 : Option Nat) (v1 : Option Nat) (v2 : Int32) (h : Hp) (H : Heap) (locs : List Loc) (ls : Array Slot), ab_H D cA sz h s H locs → lv_has ls 3 [(0, va_rf v0), (1, va_rf v1), (2, .int v2)] → f_X3_copy_2 n v0 v1 v2 h = some ((), hh) → W p l e (ab_rm 0 0 0) s m args below meth c H locs 0 0 (MQ below (ab_Q D cA sz none hh) args s 0 0 (fun q => sz ≤ q)) (F0 m 2 ls []) := by
  induction n with
  | zero => intro v0 v1 v2 h H locs ls S hl hF; cases hF
  | succ n ih =>
    intro v0 v1 v2 h H locs ls S hl hF
    rw [f_X3_copy_2] at hF
    refine lv_iload_n X.1 X.2.1 dX3_copy_2 rfl (lv_at hl 2 rfl) ?_
    refine ab_aload_n X dX3_copy_3 rfl (lv_at hl 0 rfl) ?_
    refine ab_getR X S hF fi_3_0 lf_X3_7 dX3_copy_4 (fun x1 hF => ?_)
    refine ab_alen X S hF rfl (by decide) dX3_copy_7 (fun x2 hF => ?_)
    refine lv_icmp_ge (tgt := 41) X.1 X.2.1 dX3_copy_8 (by decide) (fun c3 => ?_) (fun c3 => ?_)
    · have hF := ab_pos c3 hF
      exact ab_vret X S hr hF dX3_copy_41
    · have hF := ab_neg c3 hF
      refine ab_aload_n X dX3_copy_11 rfl (lv_at hl 0 rfl) ?_
      refine ab_getR X S hF fi_3_0 lf_X3_7 dX3_copy_12 (fun x4 hF => ?_)
      refine lv_iload_n X.1 X.2.1 dX3_copy_15 rfl (lv_at hl 2 rfl) ?_
      refine ab_aload_n X dX3_copy_16 rfl (lv_at hl 1 rfl) ?_
      refine ab_getR X S hF fi_3_0 lf_X3_7 dX3_copy_17 (fun x5 hF => ?_)
      refine lv_iload_n X.1 X.2.1 dX3_copy_20 rfl (lv_at hl 2 rfl) ?_
      refine ab_aldD X S hF dX3_copy_21 (fun x6 hF => ?_)
      refine ab_astD X S hF dX3_copy_22 (fun h7 H1 locs1 hF S => ?_)
      refine ab_aload_n X dX3_copy_23 rfl (lv_at hl 0 rfl) ?_
      refine ab_getR X S hF fi_3_1 lf_X3_13 dX3_copy_24 (fun x8 hF => ?_)
      refine lv_iload_n X.1 X.2.1 dX3_copy_27 rfl (lv_at hl 2 rfl) ?_
      refine ab_aload_n X dX3_copy_28 rfl (lv_at hl 1 rfl) ?_
      refine ab_getR X S hF fi_3_1 lf_X3_13 dX3_copy_29 (fun x9 hF => ?_)
      refine lv_iload_n X.1 X.2.1 dX3_copy_32 rfl (lv_at hl 2 rfl) ?_
      refine ab_aldZ X S hF dX3_copy_33 (fun x10 hF => ?_)
      refine ab_astZ X S hF dX3_copy_34 (fun h11 H1 locs1 hF S => ?_)
      refine lv_iinc (v := v2 + 1) (lv' := [(2, .int (v2 + 1)), (0, va_rf v0), (1, va_rf v1)]) X.1 X.2.1 dX3_copy_35 hl (k := 2) rfl (by rfl) (by decide) (by simp [ab_cat, ab_cI, ab_cJ, ab_cD, ab_cF]) (fun ls hl => ?_)
      refine lv_goto (tgt := 2) X.1 X.2.1 dX3_copy_38 (by decide) ?_
      exact ih _ _ _ _ _ _ _ S (lv_sub hl [1, 2, 0] rfl) hF
def f_X3_copy (this : Nat) (p0 : Option Nat) (h : Hp) : Option (Unit × Hp) :=
  f_X3_copy_2 fuelN (some this) p0 0 h
theorem mi_X3_copy : ab_MI yX3_copy cX3_copy 3 none 1 := ⟨lc_yX3_copy, lz_RX3, by decide, by decide, by decide +kernel⟩
set_option maxHeartbeats 4000000 in
set_option maxRecDepth 100000 in
theorem c_X3_copy (l : Launch) (D : va_G) (cA : Nat → ClassId) (sz : Nat) {this : Nat} {p0 : Option Nat} {h hh : Hp}  (hF : f_X3_copy this p0 h = some ((), hh)) : ab_C l D cA sz yX3_copy cX3_copy 3 none 0 0 0 [.ref this, va_rf p0] h none hh := by
  refine Met.ofW (cc := cX3_copy) (maxL := 3) (ret := none) (by decide) rfl ?_
  intro p e s m args below meth c s₁ B hml hv
  obtain ⟨rfl, hT, hR⟩ := hv
  have X : ab_X p s m _ meth c cX3_copy 3 RX3 D cA sz := (ab_enter B hml hT hR).1
  have S := (ab_enter B hml hT hR).2
  have hr := B.returns
  obtain ⟨ls, hls, hl⟩ := ab_entry m [.ref this, va_rf p0] 3 (lv := [(0, .ref this), (1, va_rf p0)]) (by simp [lg_sl, ab_cat, ab_cI, ab_cJ, ab_cD, ab_cF, ab_cA]) (by simp [lv_args, ab_cat, ab_cI, ab_cJ, ab_cD, ab_cF, ab_cA])
  rw [hls]
  have hl : lv_has ls 3 [(0, va_rf (some this)), (1, va_rf p0)] := hl
  unfold f_X3_copy at hF
  show W p l e (ab_rm 0 0 0) s m _ below meth c s.heap [] 0 0 _ _
  refine lv_iconst (v := 0) X.1 X.2.1 dX3_copy_0 (by decide) ?_
  refine lv_istore_n (i := 2) (lv' := [(2, .int 0), (0, va_rf (some this)), (1, va_rf p0)]) X.1 X.2.1 dX3_copy_1 rfl hl (by decide) (by simp [ab_cat, ab_cI, ab_cJ, ab_cD, ab_cF]) (fun ls hl => ?_)
  exact w_X3_copy_2 X hr  fuelN _ _ _ _ _ _ _ S (lv_sub hl [1, 2, 0] rfl) hF
def f_X3_copyOne (this : Nat) (p0 : Int32) (p1 : Option Nat) (h : Hp) : Option (Unit × Hp) :=
  (getR h (some this) 3 0).bind fun x1 =>
  (getR h p1 3 0).bind fun x2 =>
  (aldD h x2 p0).bind fun x3 =>
  (astD h x1 p0 x3).bind fun h4 =>
  (getR h4 (some this) 3 1).bind fun x5 =>
  (getR h4 p1 3 1).bind fun x6 =>
  (aldI h4 x6 12 p0).bind fun x7 =>
  (astZ h4 x5 p0 x7).bind fun h8 =>
  some ((), h8)
theorem mi_X3_copyOne : ab_MI yX3_copyOne cX3_copyOne 3 none 2 := ⟨lc_yX3_copyOne, lz_RX3, by decide, by decide, by decide +kernel⟩
set_option maxHeartbeats 4000000 in
set_option maxRecDepth 100000 in
theorem c_X3_copyOne (l : Launch) (D : va_G) (cA : Nat → ClassId) (sz : Nat) {this : Nat} {p0 : Int32} {p1 : Option Nat} {h hh : Hp}  (hF : f_X3_copyOne this p0 p1 h = some ((), hh)) : ab_C l D cA sz yX3_copyOne cX3_copyOne 3 none 0 0 0 [.ref this, .int p0, va_rf p1] h none hh := by
  refine Met.ofW (cc := cX3_copyOne) (maxL := 3) (ret := none) (by decide) rfl ?_
  intro p e s m args below meth c s₁ B hml hv
  obtain ⟨rfl, hT, hR⟩ := hv
  have X : ab_X p s m _ meth c cX3_copyOne 3 RX3 D cA sz := (ab_enter B hml hT hR).1
  have S := (ab_enter B hml hT hR).2
  have hr := B.returns
  obtain ⟨ls, hls, hl⟩ := ab_entry m [.ref this, .int p0, va_rf p1] 3 (lv := [(0, .ref this), (1, .int p0), (2, va_rf p1)]) (by simp [lg_sl, ab_cat, ab_cI, ab_cJ, ab_cD, ab_cF, ab_cA]) (by simp [lv_args, ab_cat, ab_cI, ab_cJ, ab_cD, ab_cF, ab_cA])
  rw [hls]
  have hl : lv_has ls 3 [(0, va_rf (some this)), (1, .int p0), (2, va_rf p1)] := hl
  unfold f_X3_copyOne at hF
  show W p l e (ab_rm 0 0 0) s m _ below meth c s.heap [] 0 0 _ _
  refine ab_aload_n X dX3_copyOne_0 rfl (lv_at hl 0 rfl) ?_
  refine ab_getR X S hF fi_3_0 lf_X3_7 dX3_copyOne_1 (fun x1 hF => ?_)
  refine lv_iload_n X.1 X.2.1 dX3_copyOne_4 rfl (lv_at hl 1 rfl) ?_
  refine ab_aload_n X dX3_copyOne_5 rfl (lv_at hl 2 rfl) ?_
  refine ab_getR X S hF fi_3_0 lf_X3_7 dX3_copyOne_6 (fun x2 hF => ?_)
  refine lv_iload_n X.1 X.2.1 dX3_copyOne_9 rfl (lv_at hl 1 rfl) ?_
  refine ab_aldD X S hF dX3_copyOne_10 (fun x3 hF => ?_)
  refine ab_astD X S hF dX3_copyOne_11 (fun h4 H1 locs1 hF S => ?_)
  refine ab_aload_n X dX3_copyOne_12 rfl (lv_at hl 0 rfl) ?_
  refine ab_getR X S hF fi_3_1 lf_X3_13 dX3_copyOne_13 (fun x5 hF => ?_)
  refine lv_iload_n X.1 X.2.1 dX3_copyOne_16 rfl (lv_at hl 1 rfl) ?_
  refine ab_aload_n X dX3_copyOne_17 rfl (lv_at hl 2 rfl) ?_
  refine ab_getR X S hF fi_3_1 lf_X3_13 dX3_copyOne_18 (fun x6 hF => ?_)
  refine lv_iload_n X.1 X.2.1 dX3_copyOne_21 rfl (lv_at hl 1 rfl) ?_
  refine ab_aldZ X S hF dX3_copyOne_22 (fun x7 hF => ?_)
  refine ab_astZ X S hF dX3_copyOne_23 (fun h8 H1 locs1 hF S => ?_)
  exact ab_vret X S hr hF dX3_copyOne_24
def f_X3_put_41   (h : Hp) : Option (Unit × Hp) :=
  some ((), h)
set_option maxHeartbeats 4000000 in
set_option maxRecDepth 100000 in
theorem w_X3_put_41 {p : Program} {l : Launch} {e : Env} {s : State} {m : MethodId} {args : Array Value} {below : List Frame} {meth : Method} {c : Code} {D : va_G} {cA : Nat → ClassId} {sz : Nat}  {hh : Hp}  (X : ab_X p s m args meth c cX3_put 6 RX3 D cA sz) (hr : meth.sig.returnType = none)  {H : Heap} {locs : List Loc} {ls : Array Slot}  {h : Hp} (S : ab_H D cA sz h s H locs) (hl : lv_has ls 6 []) (hF : f_X3_put_41  h = some ((), hh)) : W p l e (ab_rm 0 0 0) s m args below meth c H locs 0 0 (MQ below (ab_Q D cA sz none hh) args s 0 0 (fun q => sz ≤ q)) (F0 m 41 ls []) := by
  unfold f_X3_put_41 at hF
  exact ab_vret X S hr hF dX3_put_41
def f_X3_put_40  (u0 : UInt64) (u1 : Int32) (u2 : Option Nat) (h : Hp) : Option (Unit × Hp) :=
  (astD h u2 u1 u0).bind fun h1 =>
  f_X3_put_41 h1
set_option maxHeartbeats 4000000 in
set_option maxRecDepth 100000 in
theorem w_X3_put_40 {p : Program} {l : Launch} {e : Env} {s : State} {m : MethodId} {args : Array Value} {below : List Frame} {meth : Method} {c : Code} {D : va_G} {cA : Nat → ClassId} {sz : Nat}  {hh : Hp}  (X : ab_X p s m args meth c cX3_put 6 RX3 D cA sz) (hr : meth.sig.returnType = none)  {H : Heap} {locs : List Loc} {ls : Array Slot} {u0 : UInt64} {u1 : Int32} {u2 : Option Nat} {h : Hp} (S : ab_H D cA sz h s H locs) (hl : lv_has ls 6 []) (hF : f_X3_put_40 u0 u1 u2 h = some ((), hh)) : W p l e (ab_rm 0 0 0) s m args below meth c H locs 0 0 (MQ below (ab_Q D cA sz none hh) args s 0 0 (fun q => sz ≤ q)) (F0 m 40 ls [.double u0, .int u1, va_rf u2]) := by
  unfold f_X3_put_40 at hF
  refine ab_astD X S hF dX3_put_40 (fun h1 H1 locs1 hF S => ?_)
  exact w_X3_put_41 X hr  S (lv_sub hl [] rfl) hF
def f_X3_put (this : Nat) (p0 : Int32) (p1 : UInt64) (p2 : Int32) (p3 : Int32) (h : Hp) : Option (Unit × Hp) :=
  (getR h (some this) 3 1).bind fun x1 =>
  (astZ h x1 p0 p2).bind fun h2 =>
  if p2 = 0 then
    (getR h2 (some this) 3 0).bind fun x4 =>
    if p3 = 0 then
      f_X3_put_40 p1 p0 x4 h2
    else
      (fop32 (FP.d2f p1)).bind fun x6 =>
      (fop (FP.f2d x6)).bind fun x7 =>
      f_X3_put_40 x7 p0 x4 h2
  else
    (getR h2 (some this) 3 0).bind fun x8 =>
    (astD h2 x8 p0 FP.dconst0).bind fun h9 =>
    f_X3_put_41 h9
theorem mi_X3_put : ab_MI yX3_put cX3_put 6 none 4 := ⟨lc_yX3_put, lz_RX3, by decide, by decide, by decide +kernel⟩
set_option maxHeartbeats 4000000 in
set_option maxRecDepth 100000 in
theorem c_X3_put (l : Launch) (D : va_G) (cA : Nat → ClassId) (sz : Nat) {this : Nat} {p0 : Int32} {p1 : UInt64} {p2 : Int32} {p3 : Int32} {h hh : Hp}  (hF : f_X3_put this p0 p1 p2 p3 h = some ((), hh)) : ab_C l D cA sz yX3_put cX3_put 6 none 0 0 0 [.ref this, .int p0, .double p1, .int p2, .int p3] h none hh := by
  refine Met.ofW (cc := cX3_put) (maxL := 6) (ret := none) (by decide) rfl ?_
  intro p e s m args below meth c s₁ B hml hv
  obtain ⟨rfl, hT, hR⟩ := hv
  have X : ab_X p s m _ meth c cX3_put 6 RX3 D cA sz := (ab_enter B hml hT hR).1
  have S := (ab_enter B hml hT hR).2
  have hr := B.returns
  obtain ⟨ls, hls, hl⟩ := ab_entry m [.ref this, .int p0, .double p1, .int p2, .int p3] 6 (lv := [(0, .ref this), (1, .int p0), (2, .double p1), (4, .int p2), (5, .int p3)]) (by simp [lg_sl, ab_cat, ab_cI, ab_cJ, ab_cD, ab_cF, ab_cA]) (by simp [lv_args, ab_cat, ab_cI, ab_cJ, ab_cD, ab_cF, ab_cA])
  rw [hls]
  have hl : lv_has ls 6 [(0, va_rf (some this)), (1, .int p0), (2, .double p1), (4, .int p2), (5, .int p3)] := hl
  unfold f_X3_put at hF
  show W p l e (ab_rm 0 0 0) s m _ below meth c s.heap [] 0 0 _ _
  refine ab_aload_n X dX3_put_0 rfl (lv_at hl 0 rfl) ?_
  refine ab_getR X S hF fi_3_1 lf_X3_13 dX3_put_1 (fun x1 hF => ?_)
  refine lv_iload_n X.1 X.2.1 dX3_put_4 rfl (lv_at hl 1 rfl) ?_
  refine lv_iload X.1 X.2.1 dX3_put_5 (lv_at hl 3 rfl) ?_
  refine ab_astZ X S hF dX3_put_7 (fun h2 H1 locs1 hF S => ?_)
  refine lv_iload X.1 X.2.1 dX3_put_8 (lv_at hl 3 rfl) ?_
  refine lv_if_eq (tgt := 23) X.1 X.2.1 dX3_put_10 (by decide) (fun c3 => ?_) (fun c3 => ?_)
  · have hF := ab_pos c3 hF
    refine ab_aload_n X dX3_put_23 rfl (lv_at hl 0 rfl) ?_
    refine ab_getR X S hF fi_3_0 lf_X3_7 dX3_put_24 (fun x4 hF => ?_)
    refine lv_iload_n X.1 X.2.1 dX3_put_27 rfl (lv_at hl 1 rfl) ?_
    refine lv_iload X.1 X.2.1 dX3_put_28 (lv_at hl 4 rfl) ?_
    refine lv_if_eq (tgt := 39) X.1 X.2.1 dX3_put_30 (by decide) (fun c5 => ?_) (fun c5 => ?_)
    · have hF := ab_pos c5 hF
      refine lv_dload_n X.1 X.2.1 dX3_put_39 rfl (lv_at hl 2 rfl) ?_
      exact w_X3_put_40 X hr  S (lv_sub hl [] rfl) hF
    · have hF := ab_neg c5 hF
      refine lv_dload_n X.1 X.2.1 dX3_put_33 rfl (lv_at hl 2 rfl) ?_
      obtain ⟨x6, ev, ne, hF⟩ := ab_fopx32 hF
      refine lv_d2f X.1 X.2.1 dX3_put_34 ne ?_
      rw [ev]
      obtain ⟨x7, ev, ne, hF⟩ := ab_fopx hF
      refine lv_f2d X.1 X.2.1 dX3_put_35 ne ?_
      rw [ev]
      refine lv_goto (tgt := 40) X.1 X.2.1 dX3_put_36 (by decide) ?_
      exact w_X3_put_40 X hr  S (lv_sub hl [] rfl) hF
  · have hF := ab_neg c3 hF
    refine ab_aload_n X dX3_put_13 rfl (lv_at hl 0 rfl) ?_
    refine ab_getR X S hF fi_3_0 lf_X3_7 dX3_put_14 (fun x8 hF => ?_)
    refine lv_iload_n X.1 X.2.1 dX3_put_17 rfl (lv_at hl 1 rfl) ?_
    refine lv_dconst0 X.1 X.2.1 dX3_put_18 ?_
    refine ab_astD X S hF dX3_put_19 (fun h9 H1 locs1 hF S => ?_)
    refine lv_goto (tgt := 41) X.1 X.2.1 dX3_put_20 (by decide) ?_
    exact w_X3_put_41 X hr  S (lv_sub hl [] rfl) hF
def f_X3_isFinite_42   (h : Hp) : Option (Int32 × Hp) :=
  if 0 = 0 ∨ 0 = 1 then some (0, h) else none
set_option maxHeartbeats 4000000 in
set_option maxRecDepth 100000 in
theorem w_X3_isFinite_42 {p : Program} {l : Launch} {e : Env} {s : State} {m : MethodId} {args : Array Value} {below : List Frame} {meth : Method} {c : Code} {D : va_G} {cA : Nat → ClassId} {sz : Nat} {rr : Int32} {hh : Hp}  (X : ab_X p s m args meth c cX3_isFinite 3 RX3 D cA sz) (hr : meth.sig.returnType = (some .boolean))  {H : Heap} {locs : List Loc} {ls : Array Slot}  {h : Hp} (S : ab_H D cA sz h s H locs) (hl : lv_has ls 3 []) (hF : f_X3_isFinite_42  h = some (rr, hh)) : W p l e (ab_rm 0 0 0) s m args below meth c H locs 0 0 (MQ below (ab_Q D cA sz (some (.int rr)) hh) args s 0 0 (fun q => sz ≤ q)) (F0 m 42 ls []) := by
  unfold f_X3_isFinite_42 at hF
  refine lv_iconst (v := 0) X.1 X.2.1 dX3_isFinite_42 (by decide) ?_
  exact ab_zret X S hr hF dX3_isFinite_43
def f_X3_isFinite_2  : Nat → Option Nat → Int32 → Int32 → Hp → Option (Int32 × Hp)
  | 0, _, _, _, _ => none
  | n + 1, v0, v1, v2, h => if v1 ≤ v2 then
      if 1 = 0 ∨ 1 = 1 then some (1, h) else none
    else
      (getR h v0 3 1).bind fun x2 =>
      (aldI h x2 12 v2).bind fun x3 =>
      if ¬ x3 = 0 then
        f_X3_isFinite_42 h
      else
        (getR h v0 3 0).bind fun x5 =>
        (aldD h x5 v2).bind fun x6 =>
        if 0 < (Op.cmpValue (FP.dcmp x6 9218868437227405311) CmpOp.l) then
          f_X3_isFinite_42 h
        else
          (getR h v0 3 0).bind fun x8 =>
          (aldD h x8 v2).bind fun x9 =>
          if 0 ≤ (Op.cmpValue (FP.dcmp x9 18442240474082181119) CmpOp.g) then
            f_X3_isFinite_2 n v0 v1 (v2 + 1) h
          else
            f_X3_isFinite_42 h
set_option maxHeartbeats 4000000 in
set_option maxRecDepth 100000 in
theorem w_X3_isFinite_2 {p : Program} {l : Launch} {e : Env} {s : State} {m : MethodId} {args : Array Value} {below : List Frame} {meth : Method} {c : Code} {D : va_G} {cA : Nat → ClassId} {sz : Nat} {rr : Int32} {hh : Hp}  (X : ab_X p s m args meth c cX3_isFinite 3 RX3 D cA sz) (hr : meth.sig.returnType = (some .boolean))  (n : Nat) : ∀ (v0 : Option Nat) (v1 : Int32) (v2 : Int32) (h : Hp) (H : Heap) (locs : List Loc) (ls : Array Slot), ab_H D cA sz h s H locs → lv_has ls 3 [(0, va_rf v0), (1, .int v1), (2, .int v2)] → f_X3_isFinite_2 n v0 v1 v2 h = some (rr, hh) → W p l e (ab_rm 0 0 0) s m args below meth c H locs 0 0 (MQ below (ab_Q D cA sz (some (.int rr)) hh) args s 0 0 (fun q => sz ≤ q)) (F0 m 2 ls []) := by
  induction n with
  | zero => intro v0 v1 v2 h H locs ls S hl hF; cases hF
  | succ n ih =>
    intro v0 v1 v2 h H locs ls S hl hF
    rw [f_X3_isFinite_2] at hF
    refine lv_iload_n X.1 X.2.1 dX3_isFinite_2 rfl (lv_at hl 2 rfl) ?_
    refine lv_iload_n X.1 X.2.1 dX3_isFinite_3 rfl (lv_at hl 1 rfl) ?_
    refine lv_icmp_ge (tgt := 50) X.1 X.2.1 dX3_isFinite_4 (by decide) (fun c1 => ?_) (fun c1 => ?_)
    · have hF := ab_pos c1 hF
      refine lv_iconst (v := 1) X.1 X.2.1 dX3_isFinite_50 (by decide) ?_
      exact ab_zret X S hr hF dX3_isFinite_51
    · have hF := ab_neg c1 hF
      refine ab_aload_n X dX3_isFinite_7 rfl (lv_at hl 0 rfl) ?_
      refine ab_getR X S hF fi_3_1 lf_X3_13 dX3_isFinite_8 (fun x2 hF => ?_)
      refine lv_iload_n X.1 X.2.1 dX3_isFinite_11 rfl (lv_at hl 2 rfl) ?_
      refine ab_aldZ X S hF dX3_isFinite_12 (fun x3 hF => ?_)
      refine lv_if_ne (tgt := 42) X.1 X.2.1 dX3_isFinite_13 (by decide) (fun c4 => ?_) (fun c4 => ?_)
      · have hF := ab_pos c4 hF
        exact w_X3_isFinite_42 X hr  S (lv_sub hl [] rfl) hF
      · have hF := ab_neg (fun q => q c4) hF
        refine ab_aload_n X dX3_isFinite_16 rfl (lv_at hl 0 rfl) ?_
        refine ab_getR X S hF fi_3_0 lf_X3_7 dX3_isFinite_17 (fun x5 hF => ?_)
        refine lv_iload_n X.1 X.2.1 dX3_isFinite_20 rfl (lv_at hl 2 rfl) ?_
        refine ab_aldD X S hF dX3_isFinite_21 (fun x6 hF => ?_)
        refine lv_ldc2d (v := 9218868437227405311) X.1 X.2.1 X.2.2.2.1 (X.2.2.2.2.1 _ ld_X3_17) dX3_isFinite_22 ?_
        refine lv_dcmp X.1 X.2.1 dX3_isFinite_25 ?_
        refine lv_if_gt (tgt := 42) X.1 X.2.1 dX3_isFinite_26 (by decide) (fun c7 => ?_) (fun c7 => ?_)
        · have hF := ab_pos c7 hF
          exact w_X3_isFinite_42 X hr  S (lv_sub hl [] rfl) hF
        · have hF := ab_neg c7 hF
          refine ab_aload_n X dX3_isFinite_29 rfl (lv_at hl 0 rfl) ?_
          refine ab_getR X S hF fi_3_0 lf_X3_7 dX3_isFinite_30 (fun x8 hF => ?_)
          refine lv_iload_n X.1 X.2.1 dX3_isFinite_33 rfl (lv_at hl 2 rfl) ?_
          refine ab_aldD X S hF dX3_isFinite_34 (fun x9 hF => ?_)
          refine lv_ldc2d (v := 18442240474082181119) X.1 X.2.1 X.2.2.2.1 (X.2.2.2.2.1 _ ld_X3_19) dX3_isFinite_35 ?_
          refine lv_dcmp X.1 X.2.1 dX3_isFinite_38 ?_
          refine lv_if_ge (tgt := 44) X.1 X.2.1 dX3_isFinite_39 (by decide) (fun c10 => ?_) (fun c10 => ?_)
          · have hF := ab_pos c10 hF
            refine lv_iinc (v := v2 + 1) (lv' := [(2, .int (v2 + 1)), (0, va_rf v0), (1, .int v1)]) X.1 X.2.1 dX3_isFinite_44 hl (k := 2) rfl (by rfl) (by decide) (by simp [ab_cat, ab_cI, ab_cJ, ab_cD, ab_cF]) (fun ls hl => ?_)
            refine lv_goto (tgt := 2) X.1 X.2.1 dX3_isFinite_47 (by decide) ?_
            exact ih _ _ _ _ _ _ _ S (lv_sub hl [1, 2, 0] rfl) hF
          · have hF := ab_neg c10 hF
            exact w_X3_isFinite_42 X hr  S (lv_sub hl [] rfl) hF
def f_X3_isFinite (this : Nat) (p0 : Int32) (h : Hp) : Option (Int32 × Hp) :=
  f_X3_isFinite_2 fuelN (some this) p0 0 h
theorem mi_X3_isFinite : ab_MI yX3_isFinite cX3_isFinite 3 (some .boolean) 1 := ⟨lc_yX3_isFinite, lz_RX3, by decide, by decide, by decide +kernel⟩
set_option maxHeartbeats 4000000 in
set_option maxRecDepth 100000 in
theorem c_X3_isFinite (l : Launch) (D : va_G) (cA : Nat → ClassId) (sz : Nat) {this : Nat} {p0 : Int32} {h hh : Hp} {rr : Int32} (hF : f_X3_isFinite this p0 h = some (rr, hh)) : ab_C l D cA sz yX3_isFinite cX3_isFinite 3 (some .boolean) 0 0 0 [.ref this, .int p0] h (some (.int rr)) hh := by
  refine Met.ofW (cc := cX3_isFinite) (maxL := 3) (ret := (some .boolean)) (by decide) rfl ?_
  intro p e s m args below meth c s₁ B hml hv
  obtain ⟨rfl, hT, hR⟩ := hv
  have X : ab_X p s m _ meth c cX3_isFinite 3 RX3 D cA sz := (ab_enter B hml hT hR).1
  have S := (ab_enter B hml hT hR).2
  have hr := B.returns
  obtain ⟨ls, hls, hl⟩ := ab_entry m [.ref this, .int p0] 3 (lv := [(0, .ref this), (1, .int p0)]) (by simp [lg_sl, ab_cat, ab_cI, ab_cJ, ab_cD, ab_cF, ab_cA]) (by simp [lv_args, ab_cat, ab_cI, ab_cJ, ab_cD, ab_cF, ab_cA])
  rw [hls]
  have hl : lv_has ls 3 [(0, va_rf (some this)), (1, .int p0)] := hl
  unfold f_X3_isFinite at hF
  show W p l e (ab_rm 0 0 0) s m _ below meth c s.heap [] 0 0 _ _
  refine lv_iconst (v := 0) X.1 X.2.1 dX3_isFinite_0 (by decide) ?_
  refine lv_istore_n (i := 2) (lv' := [(2, .int 0), (0, va_rf (some this)), (1, .int p0)]) X.1 X.2.1 dX3_isFinite_1 rfl hl (by decide) (by simp [ab_cat, ab_cI, ab_cJ, ab_cD, ab_cF]) (fun ls hl => ?_)
  exact w_X3_isFinite_2 X hr  fuelN _ _ _ _ _ _ _ S (lv_sub hl [1, 2, 0] rfl) hF
def f_X5_init (this : Nat) (p0 : Int32) (h : Hp) : Option (Unit × Hp) :=
  (putZ h (some this) 5 0 p0).bind fun h1 =>
  bnd (newa h1 10 16) fun x3 h2 =>
  (putR h2 (some this) 5 1 x3).bind fun h4 =>
  bnd (newa h4 10 16) fun x6 h5 =>
  (putR h5 (some this) 5 2 x6).bind fun h7 =>
  some ((), h7)
theorem mi_X5_init : ab_MI yX5_init cX5_init 2 none 1 := ⟨lc_yX5_init, lz_RX5, by decide, by decide, by decide +kernel⟩
set_option maxHeartbeats 4000000 in
set_option maxRecDepth 100000 in
theorem c_X5_init (l : Launch) (D : va_G) (cA : Nat → ClassId) (sz : Nat) {this : Nat} {p0 : Int32} {h hh : Hp}  (hF : f_X5_init this p0 h = some ((), hh)) : ab_C l D cA sz yX5_init cX5_init 2 none 1 2 2000 [.ref this, .int p0] h none hh := by
  refine Met.ofW (cc := cX5_init) (maxL := 2) (ret := none) (by decide) rfl ?_
  intro p e s m args below meth c s₁ B hml hv
  obtain ⟨rfl, hT, hR⟩ := hv
  have X : ab_X p s m _ meth c cX5_init 2 RX5 D cA sz := (ab_enter B hml hT hR).1
  have S := (ab_enter B hml hT hR).2
  have hr := B.returns
  obtain ⟨ls, hls, hl⟩ := ab_entry m [.ref this, .int p0] 2 (lv := [(0, .ref this), (1, .int p0)]) (by simp [lg_sl, ab_cat, ab_cI, ab_cJ, ab_cD, ab_cF, ab_cA]) (by simp [lv_args, ab_cat, ab_cI, ab_cJ, ab_cD, ab_cF, ab_cA])
  rw [hls]
  have hl : lv_has ls 2 [(0, va_rf (some this)), (1, .int p0)] := hl
  have hin : meth.name = "<init>" := (name_of_methodNamed B.named B.method).1
  unfold f_X5_init at hF
  show W p l e (ab_rm 1 2 2000) s m _ below meth c s.heap [] 0 0 _ _
  refine ab_aload_n X dX5_init_0 rfl (lv_at hl 0 rfl) ?_
  refine ab_objInit X lm_X5_3 hl.1 (by decide) (by simp [ab_cat, ab_cI, ab_cJ, ab_cD, ab_cF]) dX5_init_1 ?_
  refine ab_aload_n X dX5_init_4 rfl (lv_at hl 0 rfl) ?_
  refine lv_iload_n X.1 X.2.1 dX5_init_5 rfl (lv_at hl 1 rfl) ?_
  refine ab_putZ X S hF fi_5_0 ci_5 (Or.inr ⟨rfl, hin, rfl⟩) rfl lf_X5_9 dX5_init_6 (fun h1 H1 locs1 hF S => ?_)
  refine ab_aload_n X dX5_init_9 rfl (lv_at hl 0 rfl) ?_
  refine lv_bipush (v := 16) X.1 X.2.1 dX5_init_10 (by decide) ?_
  refine ab_newD X S hF la_double (by decide) (by decide) dX5_init_12 (fun x3 h2 H1 hF S => ?_)
  refine ab_putR X S hF fi_5_1 ci_5 (Or.inr ⟨rfl, hin, rfl⟩) (fun q => by cases q <;> rfl) (fun q => by cases q <;> rfl) lf_X5_15 dX5_init_14 (fun h4 H1 locs1 hF S => ?_)
  refine ab_aload_n X dX5_init_17 rfl (lv_at hl 0 rfl) ?_
  refine lv_bipush (v := 16) X.1 X.2.1 dX5_init_18 (by decide) ?_
  refine ab_newD X S hF la_double (by decide) (by decide) dX5_init_20 (fun x6 h5 H1 hF S => ?_)
  refine ab_putR X S hF fi_5_2 ci_5 (Or.inr ⟨rfl, hin, rfl⟩) (fun q => by cases q <;> rfl) (fun q => by cases q <;> rfl) lf_X5_19 dX5_init_22 (fun h7 H1 locs1 hF S => ?_)
  refine W.widen (k := 2) (n := 2000) (Nat.le_of_ble_eq_true rfl) (Nat.le_of_ble_eq_true rfl) ?_
  exact ab_vret X S hr hF dX5_init_25
def f_X5_add_26  (v0 : Option Nat) (v1 : UInt64) (v3 : UInt64) (h : Hp) : Option (Int32 × Hp) :=
  (getI h v0 5 3).bind fun x1 =>
  if x1 < 16 then
    (getR h v0 5 1).bind fun x3 =>
    (getI h v0 5 3).bind fun x4 =>
    (astD h x3 x4 v1).bind fun h5 =>
    (getR h5 v0 5 2).bind fun x6 =>
    (getI h5 v0 5 3).bind fun x7 =>
    (astD h5 x6 x7 v3).bind fun h8 =>
    (getI h8 v0 5 3).bind fun x9 =>
    (putI h8 v0 5 3 (x9 + 1)).bind fun h10 =>
    (getI h10 v0 5 3).bind fun x11 =>
    some (x11 - 1, h10)
  else
    some ((-3), h)
set_option maxHeartbeats 4000000 in
set_option maxRecDepth 100000 in
theorem w_X5_add_26 {p : Program} {l : Launch} {e : Env} {s : State} {m : MethodId} {args : Array Value} {below : List Frame} {meth : Method} {c : Code} {D : va_G} {cA : Nat → ClassId} {sz : Nat} {rr : Int32} {hh : Hp}  (X : ab_X p s m args meth c cX5_add 5 RX5 D cA sz) (hr : meth.sig.returnType = (some .int))  {H : Heap} {locs : List Loc} {ls : Array Slot} {v0 : Option Nat} {v1 : UInt64} {v3 : UInt64} {h : Hp} (S : ab_H D cA sz h s H locs) (hl : lv_has ls 5 [(0, va_rf v0), (1, .double v1), (3, .double v3)]) (hF : f_X5_add_26 v0 v1 v3 h = some (rr, hh)) : W p l e (ab_rm 0 0 0) s m args below meth c H locs 0 0 (MQ below (ab_Q D cA sz (some (.int rr)) hh) args s 0 0 (fun q => sz ≤ q)) (F0 m 26 ls []) := by
  unfold f_X5_add_26 at hF
  refine ab_aload_n X dX5_add_26 rfl (lv_at hl 0 rfl) ?_
  refine ab_getI X S hF fi_5_3 lf_X5_22 dX5_add_27 (fun x1 hF => ?_)
  refine lv_bipush (v := 16) X.1 X.2.1 dX5_add_30 (by decide) ?_
  refine lv_icmp_lt (tgt := 38) X.1 X.2.1 dX5_add_32 (by decide) (fun c2 => ?_) (fun c2 => ?_)
  · have hF := ab_pos c2 hF
    refine ab_aload_n X dX5_add_38 rfl (lv_at hl 0 rfl) ?_
    refine ab_getR X S hF fi_5_1 lf_X5_15 dX5_add_39 (fun x3 hF => ?_)
    refine ab_aload_n X dX5_add_42 rfl (lv_at hl 0 rfl) ?_
    refine ab_getI X S hF fi_5_3 lf_X5_22 dX5_add_43 (fun x4 hF => ?_)
    refine lv_dload_n X.1 X.2.1 dX5_add_46 rfl (lv_at hl 1 rfl) ?_
    refine ab_astD X S hF dX5_add_47 (fun h5 H1 locs1 hF S => ?_)
    refine ab_aload_n X dX5_add_48 rfl (lv_at hl 0 rfl) ?_
    refine ab_getR X S hF fi_5_2 lf_X5_19 dX5_add_49 (fun x6 hF => ?_)
    refine ab_aload_n X dX5_add_52 rfl (lv_at hl 0 rfl) ?_
    refine ab_getI X S hF fi_5_3 lf_X5_22 dX5_add_53 (fun x7 hF => ?_)
    refine lv_dload_n X.1 X.2.1 dX5_add_56 rfl (lv_at hl 2 rfl) ?_
    refine ab_astD X S hF dX5_add_57 (fun h8 H1 locs1 hF S => ?_)
    refine ab_aload_n X dX5_add_58 rfl (lv_at hl 0 rfl) ?_
    refine lv_dup X.1 X.2.1 dX5_add_59 (by simp [ab_cat, ab_cI, ab_cJ, ab_cD, ab_cF]) ?_
    refine ab_getI X S hF fi_5_3 lf_X5_22 dX5_add_60 (fun x9 hF => ?_)
    refine lv_iconst (v := 1) X.1 X.2.1 dX5_add_63 (by decide) ?_
    refine lv_iadd X.1 X.2.1 dX5_add_64 ?_
    refine ab_putI X S hF fi_5_3 ci_5 (Or.inl rfl) rfl lf_X5_22 dX5_add_65 (fun h10 H1 locs1 hF S => ?_)
    refine ab_aload_n X dX5_add_68 rfl (lv_at hl 0 rfl) ?_
    refine ab_getI X S hF fi_5_3 lf_X5_22 dX5_add_69 (fun x11 hF => ?_)
    refine lv_iconst (v := 1) X.1 X.2.1 dX5_add_72 (by decide) ?_
    refine lv_isub X.1 X.2.1 dX5_add_73 ?_
    exact ab_iret X S hr hF dX5_add_74
  · have hF := ab_neg c2 hF
    refine lv_bipush (v := (-3)) X.1 X.2.1 dX5_add_35 (by decide) ?_
    exact ab_iret X S hr hF dX5_add_37
def f_X5_add (this : Nat) (p0 : UInt64) (p1 : UInt64) (h : Hp) : Option (Int32 × Hp) :=
  (getI h (some this) 5 3).bind fun x1 =>
  if x1 ≤ 0 then
    f_X5_add_26 (some this) p0 p1 h
  else
    (getR h (some this) 5 1).bind fun x3 =>
    (getI h (some this) 5 3).bind fun x4 =>
    (aldD h x3 (x4 - 1)).bind fun x5 =>
    if 0 < (Op.cmpValue (FP.dcmp p0 x5) CmpOp.g) then
      f_X5_add_26 (some this) p0 p1 h
    else
      some ((-2), h)
theorem mi_X5_add : ab_MI yX5_add cX5_add 5 (some .int) 2 := ⟨lc_yX5_add, lz_RX5, by decide, by decide, by decide +kernel⟩
set_option maxHeartbeats 4000000 in
set_option maxRecDepth 100000 in
theorem c_X5_add (l : Launch) (D : va_G) (cA : Nat → ClassId) (sz : Nat) {this : Nat} {p0 : UInt64} {p1 : UInt64} {h hh : Hp} {rr : Int32} (hF : f_X5_add this p0 p1 h = some (rr, hh)) : ab_C l D cA sz yX5_add cX5_add 5 (some .int) 0 0 0 [.ref this, .double p0, .double p1] h (some (.int rr)) hh := by
  refine Met.ofW (cc := cX5_add) (maxL := 5) (ret := (some .int)) (by decide) rfl ?_
  intro p e s m args below meth c s₁ B hml hv
  obtain ⟨rfl, hT, hR⟩ := hv
  have X : ab_X p s m _ meth c cX5_add 5 RX5 D cA sz := (ab_enter B hml hT hR).1
  have S := (ab_enter B hml hT hR).2
  have hr := B.returns
  obtain ⟨ls, hls, hl⟩ := ab_entry m [.ref this, .double p0, .double p1] 5 (lv := [(0, .ref this), (1, .double p0), (3, .double p1)]) (by simp [lg_sl, ab_cat, ab_cI, ab_cJ, ab_cD, ab_cF, ab_cA]) (by simp [lv_args, ab_cat, ab_cI, ab_cJ, ab_cD, ab_cF, ab_cA])
  rw [hls]
  have hl : lv_has ls 5 [(0, va_rf (some this)), (1, .double p0), (3, .double p1)] := hl
  unfold f_X5_add at hF
  show W p l e (ab_rm 0 0 0) s m _ below meth c s.heap [] 0 0 _ _
  refine ab_aload_n X dX5_add_0 rfl (lv_at hl 0 rfl) ?_
  refine ab_getI X S hF fi_5_3 lf_X5_22 dX5_add_1 (fun x1 hF => ?_)
  refine lv_if_le (tgt := 26) X.1 X.2.1 dX5_add_4 (by decide) (fun c2 => ?_) (fun c2 => ?_)
  · have hF := ab_pos c2 hF
    exact w_X5_add_26 X hr  S (lv_sub hl [0, 1, 2] rfl) hF
  · have hF := ab_neg c2 hF
    refine lv_dload_n X.1 X.2.1 dX5_add_7 rfl (lv_at hl 1 rfl) ?_
    refine ab_aload_n X dX5_add_8 rfl (lv_at hl 0 rfl) ?_
    refine ab_getR X S hF fi_5_1 lf_X5_15 dX5_add_9 (fun x3 hF => ?_)
    refine ab_aload_n X dX5_add_12 rfl (lv_at hl 0 rfl) ?_
    refine ab_getI X S hF fi_5_3 lf_X5_22 dX5_add_13 (fun x4 hF => ?_)
    refine lv_iconst (v := 1) X.1 X.2.1 dX5_add_16 (by decide) ?_
    refine lv_isub X.1 X.2.1 dX5_add_17 ?_
    refine ab_aldD X S hF dX5_add_18 (fun x5 hF => ?_)
    refine lv_dcmp X.1 X.2.1 dX5_add_19 ?_
    refine lv_if_gt (tgt := 26) X.1 X.2.1 dX5_add_20 (by decide) (fun c6 => ?_) (fun c6 => ?_)
    · have hF := ab_pos c6 hF
      exact w_X5_add_26 X hr  S (lv_sub hl [0, 1, 2] rfl) hF
    · have hF := ab_neg c6 hF
      refine lv_bipush (v := (-2)) X.1 X.2.1 dX5_add_23 (by decide) ?_
      exact ab_iret X S hr hF dX5_add_25
def f_X5_heightAt_72  (v0 : Option Nat) (v3 : Int32) (h : Hp) : Option (UInt64 × Hp) :=
  (getR h v0 5 2).bind fun x1 =>
  (aldD h x1 v3).bind fun x2 =>
  some (x2, h)
set_option maxHeartbeats 4000000 in
set_option maxRecDepth 100000 in
theorem w_X5_heightAt_72 {p : Program} {l : Launch} {e : Env} {s : State} {m : MethodId} {args : Array Value} {below : List Frame} {meth : Method} {c : Code} {D : va_G} {cA : Nat → ClassId} {sz : Nat} {rr : UInt64} {hh : Hp}  (X : ab_X p s m args meth c cX5_heightAt 6 RX5 D cA sz) (hr : meth.sig.returnType = (some .double))  {H : Heap} {locs : List Loc} {ls : Array Slot} {v0 : Option Nat} {v3 : Int32} {h : Hp} (S : ab_H D cA sz h s H locs) (hl : lv_has ls 6 [(0, va_rf v0), (3, .int v3)]) (hF : f_X5_heightAt_72 v0 v3 h = some (rr, hh)) : W p l e (ab_rm 0 0 0) s m args below meth c H locs 0 0 (MQ below (ab_Q D cA sz (some (.double rr)) hh) args s 0 0 (fun q => sz ≤ q)) (F0 m 72 ls []) := by
  unfold f_X5_heightAt_72 at hF
  refine ab_aload_n X dX5_heightAt_72 rfl (lv_at hl 0 rfl) ?_
  refine ab_getR X S hF fi_5_2 lf_X5_19 dX5_heightAt_73 (fun x1 hF => ?_)
  refine lv_iload_n X.1 X.2.1 dX5_heightAt_76 rfl (lv_at hl 1 rfl) ?_
  refine ab_aldD X S hF dX5_heightAt_77 (fun x2 hF => ?_)
  exact ab_dret X S hr hF dX5_heightAt_78
def f_X5_heightAt_44  (v0 : Option Nat) (v1 : UInt64) (v3 : Int32) (h : Hp) : Option (UInt64 × Hp) :=
  (getI h v0 5 0).bind fun x1 =>
  if x1 = 0 then
    f_X5_heightAt_72 v0 v3 h
  else
    (getR h v0 5 1).bind fun x3 =>
    (aldD h x3 v3).bind fun x4 =>
    if (Op.cmpValue (FP.dcmp v1 x4) CmpOp.g) ≤ 0 then
      f_X5_heightAt_72 v0 v3 h
    else
      (getI h v0 5 3).bind fun x6 =>
      if (v3 + 1) < x6 then
        (getR h v0 5 1).bind fun x8 =>
        (aldD h x8 v3).bind fun x9 =>
        (fop (FP.dsub v1 x9)).bind fun x10 =>
        (getR h v0 5 1).bind fun x11 =>
        (aldD h x11 (v3 + 1)).bind fun x12 =>
        (getR h v0 5 1).bind fun x13 =>
        (aldD h x13 v3).bind fun x14 =>
        (fop (FP.dsub x12 x14)).bind fun x15 =>
        (fop (FP.ddiv x10 x15)).bind fun x16 =>
        (getR h v0 5 2).bind fun x17 =>
        (aldD h x17 v3).bind fun x18 =>
        (getR h v0 5 2).bind fun x19 =>
        (aldD h x19 (v3 + 1)).bind fun x20 =>
        (getR h v0 5 2).bind fun x21 =>
        (aldD h x21 v3).bind fun x22 =>
        (fop (FP.dsub x20 x22)).bind fun x23 =>
        (fop (FP.dmul x23 x16)).bind fun x24 =>
        (fop (FP.dadd x18 x24)).bind fun x25 =>
        some (x25, h)
      else
        f_X5_heightAt_72 v0 v3 h
set_option maxHeartbeats 4000000 in
set_option maxRecDepth 100000 in
theorem w_X5_heightAt_44 {p : Program} {l : Launch} {e : Env} {s : State} {m : MethodId} {args : Array Value} {below : List Frame} {meth : Method} {c : Code} {D : va_G} {cA : Nat → ClassId} {sz : Nat} {rr : UInt64} {hh : Hp}  (X : ab_X p s m args meth c cX5_heightAt 6 RX5 D cA sz) (hr : meth.sig.returnType = (some .double))  {H : Heap} {locs : List Loc} {ls : Array Slot} {v0 : Option Nat} {v1 : UInt64} {v3 : Int32} {h : Hp} (S : ab_H D cA sz h s H locs) (hl : lv_has ls 6 [(0, va_rf v0), (1, .double v1), (3, .int v3)]) (hF : f_X5_heightAt_44 v0 v1 v3 h = some (rr, hh)) : W p l e (ab_rm 0 0 0) s m args below meth c H locs 0 0 (MQ below (ab_Q D cA sz (some (.double rr)) hh) args s 0 0 (fun q => sz ≤ q)) (F0 m 44 ls []) := by
  unfold f_X5_heightAt_44 at hF
  refine ab_aload_n X dX5_heightAt_44 rfl (lv_at hl 0 rfl) ?_
  refine ab_getI X S hF fi_5_0 lf_X5_9 dX5_heightAt_45 (fun x1 hF => ?_)
  refine lv_if_eq (tgt := 72) X.1 X.2.1 dX5_heightAt_48 (by decide) (fun c2 => ?_) (fun c2 => ?_)
  · have hF := ab_pos c2 hF
    exact w_X5_heightAt_72 X hr  S (lv_sub hl [0, 2] rfl) hF
  · have hF := ab_neg c2 hF
    refine lv_dload_n X.1 X.2.1 dX5_heightAt_51 rfl (lv_at hl 1 rfl) ?_
    refine ab_aload_n X dX5_heightAt_52 rfl (lv_at hl 0 rfl) ?_
    refine ab_getR X S hF fi_5_1 lf_X5_15 dX5_heightAt_53 (fun x3 hF => ?_)
    refine lv_iload_n X.1 X.2.1 dX5_heightAt_56 rfl (lv_at hl 2 rfl) ?_
    refine ab_aldD X S hF dX5_heightAt_57 (fun x4 hF => ?_)
    refine lv_dcmp X.1 X.2.1 dX5_heightAt_58 ?_
    refine lv_if_le (tgt := 72) X.1 X.2.1 dX5_heightAt_59 (by decide) (fun c5 => ?_) (fun c5 => ?_)
    · have hF := ab_pos c5 hF
      exact w_X5_heightAt_72 X hr  S (lv_sub hl [0, 2] rfl) hF
    · have hF := ab_neg c5 hF
      refine lv_iload_n X.1 X.2.1 dX5_heightAt_62 rfl (lv_at hl 2 rfl) ?_
      refine lv_iconst (v := 1) X.1 X.2.1 dX5_heightAt_63 (by decide) ?_
      refine lv_iadd X.1 X.2.1 dX5_heightAt_64 ?_
      refine ab_aload_n X dX5_heightAt_65 rfl (lv_at hl 0 rfl) ?_
      refine ab_getI X S hF fi_5_3 lf_X5_22 dX5_heightAt_66 (fun x6 hF => ?_)
      refine lv_icmp_lt (tgt := 79) X.1 X.2.1 dX5_heightAt_69 (by decide) (fun c7 => ?_) (fun c7 => ?_)
      · have hF := ab_pos c7 hF
        refine lv_dload_n X.1 X.2.1 dX5_heightAt_79 rfl (lv_at hl 1 rfl) ?_
        refine ab_aload_n X dX5_heightAt_80 rfl (lv_at hl 0 rfl) ?_
        refine ab_getR X S hF fi_5_1 lf_X5_15 dX5_heightAt_81 (fun x8 hF => ?_)
        refine lv_iload_n X.1 X.2.1 dX5_heightAt_84 rfl (lv_at hl 2 rfl) ?_
        refine ab_aldD X S hF dX5_heightAt_85 (fun x9 hF => ?_)
        obtain ⟨x10, ev, ne, hF⟩ := ab_fopx hF
        refine lv_dsub X.1 X.2.1 dX5_heightAt_86 ne ?_
        rw [ev]
        refine ab_aload_n X dX5_heightAt_87 rfl (lv_at hl 0 rfl) ?_
        refine ab_getR X S hF fi_5_1 lf_X5_15 dX5_heightAt_88 (fun x11 hF => ?_)
        refine lv_iload_n X.1 X.2.1 dX5_heightAt_91 rfl (lv_at hl 2 rfl) ?_
        refine lv_iconst (v := 1) X.1 X.2.1 dX5_heightAt_92 (by decide) ?_
        refine lv_iadd X.1 X.2.1 dX5_heightAt_93 ?_
        refine ab_aldD X S hF dX5_heightAt_94 (fun x12 hF => ?_)
        refine ab_aload_n X dX5_heightAt_95 rfl (lv_at hl 0 rfl) ?_
        refine ab_getR X S hF fi_5_1 lf_X5_15 dX5_heightAt_96 (fun x13 hF => ?_)
        refine lv_iload_n X.1 X.2.1 dX5_heightAt_99 rfl (lv_at hl 2 rfl) ?_
        refine ab_aldD X S hF dX5_heightAt_100 (fun x14 hF => ?_)
        obtain ⟨x15, ev, ne, hF⟩ := ab_fopx hF
        refine lv_dsub X.1 X.2.1 dX5_heightAt_101 ne ?_
        rw [ev]
        obtain ⟨x16, ev, ne, hF⟩ := ab_fopx hF
        refine lv_ddiv X.1 X.2.1 dX5_heightAt_102 ne ?_
        rw [ev]
        refine lv_dstore (lv' := [(4, .double x16), (0, va_rf v0), (1, .double v1), (3, .int v3)]) X.1 X.2.1 dX5_heightAt_103 hl (by decide) (by simp [ab_cat, ab_cI, ab_cJ, ab_cD, ab_cF]) (fun ls hl => ?_)
        refine ab_aload_n X dX5_heightAt_105 rfl (lv_at hl 1 rfl) ?_
        refine ab_getR X S hF fi_5_2 lf_X5_19 dX5_heightAt_106 (fun x17 hF => ?_)
        refine lv_iload_n X.1 X.2.1 dX5_heightAt_109 rfl (lv_at hl 3 rfl) ?_
        refine ab_aldD X S hF dX5_heightAt_110 (fun x18 hF => ?_)
        refine ab_aload_n X dX5_heightAt_111 rfl (lv_at hl 1 rfl) ?_
        refine ab_getR X S hF fi_5_2 lf_X5_19 dX5_heightAt_112 (fun x19 hF => ?_)
        refine lv_iload_n X.1 X.2.1 dX5_heightAt_115 rfl (lv_at hl 3 rfl) ?_
        refine lv_iconst (v := 1) X.1 X.2.1 dX5_heightAt_116 (by decide) ?_
        refine lv_iadd X.1 X.2.1 dX5_heightAt_117 ?_
        refine ab_aldD X S hF dX5_heightAt_118 (fun x20 hF => ?_)
        refine ab_aload_n X dX5_heightAt_119 rfl (lv_at hl 1 rfl) ?_
        refine ab_getR X S hF fi_5_2 lf_X5_19 dX5_heightAt_120 (fun x21 hF => ?_)
        refine lv_iload_n X.1 X.2.1 dX5_heightAt_123 rfl (lv_at hl 3 rfl) ?_
        refine ab_aldD X S hF dX5_heightAt_124 (fun x22 hF => ?_)
        obtain ⟨x23, ev, ne, hF⟩ := ab_fopx hF
        refine lv_dsub X.1 X.2.1 dX5_heightAt_125 ne ?_
        rw [ev]
        refine lv_dload X.1 X.2.1 dX5_heightAt_126 (lv_at hl 0 rfl) ?_
        obtain ⟨x24, ev, ne, hF⟩ := ab_fopx hF
        refine lv_dmul X.1 X.2.1 dX5_heightAt_128 ne ?_
        rw [ev]
        obtain ⟨x25, ev, ne, hF⟩ := ab_fopx hF
        refine lv_dadd X.1 X.2.1 dX5_heightAt_129 ne ?_
        rw [ev]
        exact ab_dret X S hr hF dX5_heightAt_130
      · have hF := ab_neg c7 hF
        exact w_X5_heightAt_72 X hr  S (lv_sub hl [0, 2] rfl) hF
def f_X5_heightAt_14  : Nat → Option Nat → UInt64 → Int32 → Int32 → Hp → Option (UInt64 × Hp)
  | 0, _, _, _, _, _ => none
  | n + 1, v0, v1, v3, v4, h => (getI h v0 5 3).bind fun x1 =>
    if x1 ≤ v4 then
      f_X5_heightAt_44 v0 v1 v3 h
    else
      (getR h v0 5 1).bind fun x3 =>
      (aldD h x3 v4).bind fun x4 =>
      if 0 < (Op.cmpValue (FP.dcmp x4 v1) CmpOp.g) then
        f_X5_heightAt_44 v0 v1 v3 h
      else
        f_X5_heightAt_14 n v0 v1 v4 (v4 + 1) h
set_option maxHeartbeats 4000000 in
set_option maxRecDepth 100000 in
theorem w_X5_heightAt_14 {p : Program} {l : Launch} {e : Env} {s : State} {m : MethodId} {args : Array Value} {below : List Frame} {meth : Method} {c : Code} {D : va_G} {cA : Nat → ClassId} {sz : Nat} {rr : UInt64} {hh : Hp}  (X : ab_X p s m args meth c cX5_heightAt 6 RX5 D cA sz) (hr : meth.sig.returnType = (some .double))  (n : Nat) : ∀ (v0 : Option Nat) (v1 : UInt64) (v3 : Int32) (v4 : Int32) (h : Hp) (H : Heap) (locs : List Loc) (ls : Array Slot), ab_H D cA sz h s H locs → lv_has ls 6 [(0, va_rf v0), (1, .double v1), (3, .int v3), (4, .int v4)] → f_X5_heightAt_14 n v0 v1 v3 v4 h = some (rr, hh) → W p l e (ab_rm 0 0 0) s m args below meth c H locs 0 0 (MQ below (ab_Q D cA sz (some (.double rr)) hh) args s 0 0 (fun q => sz ≤ q)) (F0 m 14 ls []) := by
  induction n with
  | zero => intro v0 v1 v3 v4 h H locs ls S hl hF; cases hF
  | succ n ih =>
    intro v0 v1 v3 v4 h H locs ls S hl hF
    rw [f_X5_heightAt_14] at hF
    refine lv_iload X.1 X.2.1 dX5_heightAt_14 (lv_at hl 3 rfl) ?_
    refine ab_aload_n X dX5_heightAt_16 rfl (lv_at hl 0 rfl) ?_
    refine ab_getI X S hF fi_5_3 lf_X5_22 dX5_heightAt_17 (fun x1 hF => ?_)
    refine lv_icmp_ge (tgt := 44) X.1 X.2.1 dX5_heightAt_20 (by decide) (fun c2 => ?_) (fun c2 => ?_)
    · have hF := ab_pos c2 hF
      exact w_X5_heightAt_44 X hr  S (lv_sub hl [0, 1, 2] rfl) hF
    · have hF := ab_neg c2 hF
      refine ab_aload_n X dX5_heightAt_23 rfl (lv_at hl 0 rfl) ?_
      refine ab_getR X S hF fi_5_1 lf_X5_15 dX5_heightAt_24 (fun x3 hF => ?_)
      refine lv_iload X.1 X.2.1 dX5_heightAt_27 (lv_at hl 3 rfl) ?_
      refine ab_aldD X S hF dX5_heightAt_29 (fun x4 hF => ?_)
      refine lv_dload_n X.1 X.2.1 dX5_heightAt_30 rfl (lv_at hl 1 rfl) ?_
      refine lv_dcmp X.1 X.2.1 dX5_heightAt_31 ?_
      refine lv_if_gt (tgt := 44) X.1 X.2.1 dX5_heightAt_32 (by decide) (fun c5 => ?_) (fun c5 => ?_)
      · have hF := ab_pos c5 hF
        exact w_X5_heightAt_44 X hr  S (lv_sub hl [0, 1, 2] rfl) hF
      · have hF := ab_neg c5 hF
        refine lv_iload X.1 X.2.1 dX5_heightAt_35 (lv_at hl 3 rfl) ?_
        refine lv_istore_n (i := 3) (lv' := [(3, .int v4), (0, va_rf v0), (1, .double v1), (4, .int v4)]) X.1 X.2.1 dX5_heightAt_37 rfl hl (by decide) (by simp [ab_cat, ab_cI, ab_cJ, ab_cD, ab_cF]) (fun ls hl => ?_)
        refine lv_iinc (v := v4 + 1) (lv' := [(4, .int (v4 + 1)), (3, .int v4), (0, va_rf v0), (1, .double v1)]) X.1 X.2.1 dX5_heightAt_38 hl (k := 3) rfl (by rfl) (by decide) (by simp [ab_cat, ab_cI, ab_cJ, ab_cD, ab_cF]) (fun ls hl => ?_)
        refine lv_goto (tgt := 14) X.1 X.2.1 dX5_heightAt_41 (by decide) ?_
        exact ih _ _ _ _ _ _ _ _ S (lv_sub hl [2, 3, 1, 0] rfl) hF
def f_X5_heightAt (this : Nat) (p0 : UInt64) (h : Hp) : Option (UInt64 × Hp) :=
  (getI h (some this) 5 3).bind fun x1 =>
  if ¬ x1 = 0 then
    f_X5_heightAt_14 fuelN (some this) p0 0 1 h
  else
    some (FP.dconst0, h)
theorem mi_X5_heightAt : ab_MI yX5_heightAt cX5_heightAt 6 (some .double) 1 := ⟨lc_yX5_heightAt, lz_RX5, by decide, by decide, by decide +kernel⟩
set_option maxHeartbeats 4000000 in
set_option maxRecDepth 100000 in
theorem c_X5_heightAt (l : Launch) (D : va_G) (cA : Nat → ClassId) (sz : Nat) {this : Nat} {p0 : UInt64} {h hh : Hp} {rr : UInt64} (hF : f_X5_heightAt this p0 h = some (rr, hh)) : ab_C l D cA sz yX5_heightAt cX5_heightAt 6 (some .double) 0 0 0 [.ref this, .double p0] h (some (.double rr)) hh := by
  refine Met.ofW (cc := cX5_heightAt) (maxL := 6) (ret := (some .double)) (by decide) rfl ?_
  intro p e s m args below meth c s₁ B hml hv
  obtain ⟨rfl, hT, hR⟩ := hv
  have X : ab_X p s m _ meth c cX5_heightAt 6 RX5 D cA sz := (ab_enter B hml hT hR).1
  have S := (ab_enter B hml hT hR).2
  have hr := B.returns
  obtain ⟨ls, hls, hl⟩ := ab_entry m [.ref this, .double p0] 6 (lv := [(0, .ref this), (1, .double p0)]) (by simp [lg_sl, ab_cat, ab_cI, ab_cJ, ab_cD, ab_cF, ab_cA]) (by simp [lv_args, ab_cat, ab_cI, ab_cJ, ab_cD, ab_cF, ab_cA])
  rw [hls]
  have hl : lv_has ls 6 [(0, va_rf (some this)), (1, .double p0)] := hl
  unfold f_X5_heightAt at hF
  show W p l e (ab_rm 0 0 0) s m _ below meth c s.heap [] 0 0 _ _
  refine ab_aload_n X dX5_heightAt_0 rfl (lv_at hl 0 rfl) ?_
  refine ab_getI X S hF fi_5_3 lf_X5_22 dX5_heightAt_1 (fun x1 hF => ?_)
  refine lv_if_ne (tgt := 9) X.1 X.2.1 dX5_heightAt_4 (by decide) (fun c2 => ?_) (fun c2 => ?_)
  · have hF := ab_pos c2 hF
    refine lv_iconst (v := 0) X.1 X.2.1 dX5_heightAt_9 (by decide) ?_
    refine lv_istore_n (i := 3) (lv' := [(3, .int 0), (0, va_rf (some this)), (1, .double p0)]) X.1 X.2.1 dX5_heightAt_10 rfl hl (by decide) (by simp [ab_cat, ab_cI, ab_cJ, ab_cD, ab_cF]) (fun ls hl => ?_)
    refine lv_iconst (v := 1) X.1 X.2.1 dX5_heightAt_11 (by decide) ?_
    refine lv_istore (lv' := [(4, .int 1), (3, .int 0), (0, va_rf (some this)), (1, .double p0)]) X.1 X.2.1 dX5_heightAt_12 hl (by decide) (by simp [ab_cat, ab_cI, ab_cJ, ab_cD, ab_cF]) (fun ls hl => ?_)
    exact w_X5_heightAt_14 X hr  fuelN _ _ _ _ _ _ _ _ S (lv_sub hl [2, 3, 1, 0] rfl) hF
  · have hF := ab_neg (fun q => q c2) hF
    refine lv_dconst0 X.1 X.2.1 dX5_heightAt_7 ?_
    exact ab_dret X S hr hF dX5_heightAt_8
