def f_X9_greatest_49  (u0 : UInt64) (h : Hp) : Option (UInt64 × Hp) :=
  some (u0, h)
set_option maxHeartbeats 4000000 in
set_option maxRecDepth 100000 in
theorem w_X9_greatest_49 {p : Program} {l : Launch} {e : Env} {s : State} {m : MethodId} {args : Array Value} {below : List Frame} {meth : Method} {c : Code} {D : va_G} {cA : Nat → ClassId} {sz : Nat} {rr : UInt64} {hh : Hp}  (X : ab_X p s m args meth c cX9_greatest 4 RX9 D cA sz) (hr : meth.sig.returnType = (some .double))  {H : Heap} {locs : List Loc} {ls : Array Slot} {u0 : UInt64} {h : Hp} (S : ab_H D cA sz h s H locs) (hl : lv_has ls 4 []) (hF : f_X9_greatest_49 u0 h = some (rr, hh)) : W p l e (ab_rm 0 0 0) s m args below meth c H locs 0 0 (MQ below (ab_Q D cA sz (some (.double rr)) hh) args s 0 0 (fun q => sz ≤ q)) (F0 m 49 ls [.double u0]) := by
  unfold f_X9_greatest_49 at hF
  exact ab_dret X S hr hF dX9_greatest_49
def f_X9_greatest_37  (u0 : UInt64) (h : Hp) : Option (UInt64 × Hp) :=
  some (u0, h)
set_option maxHeartbeats 4000000 in
set_option maxRecDepth 100000 in
theorem w_X9_greatest_37 {p : Program} {l : Launch} {e : Env} {s : State} {m : MethodId} {args : Array Value} {below : List Frame} {meth : Method} {c : Code} {D : va_G} {cA : Nat → ClassId} {sz : Nat} {rr : UInt64} {hh : Hp}  (X : ab_X p s m args meth c cX9_greatest 4 RX9 D cA sz) (hr : meth.sig.returnType = (some .double))  {H : Heap} {locs : List Loc} {ls : Array Slot} {u0 : UInt64} {h : Hp} (S : ab_H D cA sz h s H locs) (hl : lv_has ls 4 []) (hF : f_X9_greatest_37 u0 h = some (rr, hh)) : W p l e (ab_rm 0 0 0) s m args below meth c H locs 0 0 (MQ below (ab_Q D cA sz (some (.double rr)) hh) args s 0 0 (fun q => sz ≤ q)) (F0 m 37 ls [.double u0]) := by
  unfold f_X9_greatest_37 at hF
  exact ab_dret X S hr hF dX9_greatest_37
def f_X9_greatest (p0 : UInt64) (p1 : UInt64) (h : Hp) : Option (UInt64 × Hp) :=
  if (Op.cmpValue (FP.dcmp p0 p0) CmpOp.l) = 0 then
    if (Op.cmpValue (FP.dcmp p1 p1) CmpOp.l) = 0 then
      if ¬ (Op.cmpValue (FP.dcmp p0 p1) CmpOp.l) = 0 then
        if 0 ≤ (Op.cmpValue (FP.dcmp p0 p1) CmpOp.g) then
          f_X9_greatest_49 p0 h
        else
          f_X9_greatest_49 p1 h
      else
        (fop (FP.ddiv FP.dconst1 p0)).bind fun x5 =>
        (fop (FP.ddiv FP.dconst1 p1)).bind fun x6 =>
        if 0 ≤ (Op.cmpValue (FP.dcmp x5 x6) CmpOp.g) then
          f_X9_greatest_37 p0 h
        else
          f_X9_greatest_37 p1 h
    else
      some (p1, h)
  else
    some (p0, h)
theorem mi_X9_greatest : ab_MI yX9_greatest cX9_greatest 4 (some .double) 2 := ⟨lc_yX9_greatest, lz_RX9, by decide, by decide, by decide +kernel⟩
set_option maxHeartbeats 4000000 in
set_option maxRecDepth 100000 in
theorem c_X9_greatest (l : Launch) (D : va_G) (cA : Nat → ClassId) (sz : Nat) {p0 : UInt64} {p1 : UInt64} {h hh : Hp} {rr : UInt64} (hF : f_X9_greatest p0 p1 h = some (rr, hh)) : ab_C l D cA sz yX9_greatest cX9_greatest 4 (some .double) 0 0 0 [.double p0, .double p1] h (some (.double rr)) hh := by
  refine Met.ofW (cc := cX9_greatest) (maxL := 4) (ret := (some .double)) (by decide) rfl ?_
  intro p e s m args below meth c s₁ B hml hv
  obtain ⟨rfl, hT, hR⟩ := hv
  have X : ab_X p s m _ meth c cX9_greatest 4 RX9 D cA sz := (ab_enter B hml hT hR).1
  have S := (ab_enter B hml hT hR).2
  have hr := B.returns
  obtain ⟨ls, hls, hl⟩ := ab_entry m [.double p0, .double p1] 4 (lv := [(0, .double p0), (2, .double p1)]) (by simp [lg_sl, ab_cat, ab_cI, ab_cJ, ab_cD, ab_cF, ab_cA]) (by simp [lv_args, ab_cat, ab_cI, ab_cJ, ab_cD, ab_cF, ab_cA])
  rw [hls]
  have hl : lv_has ls 4 [(0, .double p0), (2, .double p1)] := hl
  unfold f_X9_greatest at hF
  show W p l e (ab_rm 0 0 0) s m _ below meth c s.heap [] 0 0 _ _
  refine lv_dload_n X.1 X.2.1 dX9_greatest_0 rfl (lv_at hl 0 rfl) ?_
  refine lv_dload_n X.1 X.2.1 dX9_greatest_1 rfl (lv_at hl 0 rfl) ?_
  refine lv_dcmp X.1 X.2.1 dX9_greatest_2 ?_
  refine lv_if_eq (tgt := 8) X.1 X.2.1 dX9_greatest_3 (by decide) (fun c1 => ?_) (fun c1 => ?_)
  · have hF := ab_pos c1 hF
    refine lv_dload_n X.1 X.2.1 dX9_greatest_8 rfl (lv_at hl 1 rfl) ?_
    refine lv_dload_n X.1 X.2.1 dX9_greatest_9 rfl (lv_at hl 1 rfl) ?_
    refine lv_dcmp X.1 X.2.1 dX9_greatest_10 ?_
    refine lv_if_eq (tgt := 16) X.1 X.2.1 dX9_greatest_11 (by decide) (fun c2 => ?_) (fun c2 => ?_)
    · have hF := ab_pos c2 hF
      refine lv_dload_n X.1 X.2.1 dX9_greatest_16 rfl (lv_at hl 0 rfl) ?_
      refine lv_dload_n X.1 X.2.1 dX9_greatest_17 rfl (lv_at hl 1 rfl) ?_
      refine lv_dcmp X.1 X.2.1 dX9_greatest_18 ?_
      refine lv_if_ne (tgt := 38) X.1 X.2.1 dX9_greatest_19 (by decide) (fun c3 => ?_) (fun c3 => ?_)
      · have hF := ab_pos c3 hF
        refine lv_dload_n X.1 X.2.1 dX9_greatest_38 rfl (lv_at hl 0 rfl) ?_
        refine lv_dload_n X.1 X.2.1 dX9_greatest_39 rfl (lv_at hl 1 rfl) ?_
        refine lv_dcmp X.1 X.2.1 dX9_greatest_40 ?_
        refine lv_if_ge (tgt := 48) X.1 X.2.1 dX9_greatest_41 (by decide) (fun c4 => ?_) (fun c4 => ?_)
        · have hF := ab_pos c4 hF
          refine lv_dload_n X.1 X.2.1 dX9_greatest_48 rfl (lv_at hl 0 rfl) ?_
          exact w_X9_greatest_49 X hr  S (lv_sub hl [] rfl) hF
        · have hF := ab_neg c4 hF
          refine lv_dload_n X.1 X.2.1 dX9_greatest_44 rfl (lv_at hl 1 rfl) ?_
          refine lv_goto (tgt := 49) X.1 X.2.1 dX9_greatest_45 (by decide) ?_
          exact w_X9_greatest_49 X hr  S (lv_sub hl [] rfl) hF
      · have hF := ab_neg (fun q => q c3) hF
        refine lv_dconst1 X.1 X.2.1 dX9_greatest_22 ?_
        refine lv_dload_n X.1 X.2.1 dX9_greatest_23 rfl (lv_at hl 0 rfl) ?_
        obtain ⟨x5, ev, ne, hF⟩ := ab_fopx hF
        refine lv_ddiv X.1 X.2.1 dX9_greatest_24 ne ?_
        rw [ev]
        refine lv_dconst1 X.1 X.2.1 dX9_greatest_25 ?_
        refine lv_dload_n X.1 X.2.1 dX9_greatest_26 rfl (lv_at hl 1 rfl) ?_
        obtain ⟨x6, ev, ne, hF⟩ := ab_fopx hF
        refine lv_ddiv X.1 X.2.1 dX9_greatest_27 ne ?_
        rw [ev]
        refine lv_dcmp X.1 X.2.1 dX9_greatest_28 ?_
        refine lv_if_ge (tgt := 36) X.1 X.2.1 dX9_greatest_29 (by decide) (fun c7 => ?_) (fun c7 => ?_)
        · have hF := ab_pos c7 hF
          refine lv_dload_n X.1 X.2.1 dX9_greatest_36 rfl (lv_at hl 0 rfl) ?_
          exact w_X9_greatest_37 X hr  S (lv_sub hl [] rfl) hF
        · have hF := ab_neg c7 hF
          refine lv_dload_n X.1 X.2.1 dX9_greatest_32 rfl (lv_at hl 1 rfl) ?_
          refine lv_goto (tgt := 37) X.1 X.2.1 dX9_greatest_33 (by decide) ?_
          exact w_X9_greatest_37 X hr  S (lv_sub hl [] rfl) hF
    · have hF := ab_neg c2 hF
      refine lv_dload_n X.1 X.2.1 dX9_greatest_14 rfl (lv_at hl 1 rfl) ?_
      exact ab_dret X S hr hF dX9_greatest_15
  · have hF := ab_neg c1 hF
    refine lv_dload_n X.1 X.2.1 dX9_greatest_6 rfl (lv_at hl 0 rfl) ?_
    exact ab_dret X S hr hF dX9_greatest_7
def f_X9_put_28  (u0 : UInt64) (h : Hp) : Option (UInt64 × Hp) :=
  some (u0, h)
set_option maxHeartbeats 4000000 in
set_option maxRecDepth 100000 in
theorem w_X9_put_28 {p : Program} {l : Launch} {e : Env} {s : State} {m : MethodId} {args : Array Value} {below : List Frame} {meth : Method} {c : Code} {D : va_G} {cA : Nat → ClassId} {sz : Nat} {rr : UInt64} {hh : Hp}  (X : ab_X p s m args meth c cX9_put 5 RX9 D cA sz) (hr : meth.sig.returnType = (some .double))  {H : Heap} {locs : List Loc} {ls : Array Slot} {u0 : UInt64} {h : Hp} (S : ab_H D cA sz h s H locs) (hl : lv_has ls 5 []) (hF : f_X9_put_28 u0 h = some (rr, hh)) : W p l e (ab_rm 1 0 0) s m args below meth c H locs 0 0 (MQ below (ab_Q D cA sz (some (.double rr)) hh) args s 0 0 (fun q => sz ≤ q)) (F0 m 28 ls [.double u0]) := by
  unfold f_X9_put_28 at hF
  exact ab_dret X S hr hF dX9_put_28
def f_X9_put_27  (v3 : UInt64) (h : Hp) : Option (UInt64 × Hp) :=
  f_X9_put_28 v3 h
set_option maxHeartbeats 4000000 in
set_option maxRecDepth 100000 in
theorem w_X9_put_27 {p : Program} {l : Launch} {e : Env} {s : State} {m : MethodId} {args : Array Value} {below : List Frame} {meth : Method} {c : Code} {D : va_G} {cA : Nat → ClassId} {sz : Nat} {rr : UInt64} {hh : Hp}  (X : ab_X p s m args meth c cX9_put 5 RX9 D cA sz) (hr : meth.sig.returnType = (some .double))  {H : Heap} {locs : List Loc} {ls : Array Slot} {v3 : UInt64} {h : Hp} (S : ab_H D cA sz h s H locs) (hl : lv_has ls 5 [(3, .double v3)]) (hF : f_X9_put_27 v3 h = some (rr, hh)) : W p l e (ab_rm 1 0 0) s m args below meth c H locs 0 0 (MQ below (ab_Q D cA sz (some (.double rr)) hh) args s 0 0 (fun q => sz ≤ q)) (F0 m 27 ls []) := by
  unfold f_X9_put_27 at hF
  refine lv_dload_n X.1 X.2.1 dX9_put_27 rfl (lv_at hl 0 rfl) ?_
  exact w_X9_put_28 X hr  S (lv_sub hl [] rfl) hF
def f_X9_put (this : Nat) (p0 : Int32) (p1 : Int32) (p2 : UInt64) (h : Hp) : Option (UInt64 × Hp) :=
  (getR h (some this) 9 1).bind fun x1 =>
  (aldI h x1 11 p0).bind fun x2 =>
  if ¬ ((x2 >>> (p1 &&& 31)) &&& 1) = 1 then
    f_X9_put_27 p2 h
  else
    bnd (f_X9_isNumber p2 h) fun x4 h5 =>
    if x4 = 0 then
      f_X9_put_27 p2 h5
    else
      (fop32 (FP.d2f p2)).bind fun x8 =>
      (fop (FP.f2d x8)).bind fun x9 =>
      f_X9_put_28 x9 h5
theorem mi_X9_put : ab_MI yX9_put cX9_put 5 (some .double) 3 := ⟨lc_yX9_put, lz_RX9, by decide, by decide, by decide +kernel⟩
set_option maxHeartbeats 4000000 in
set_option maxRecDepth 100000 in
theorem c_X9_put (l : Launch) (D : va_G) (cA : Nat → ClassId) (sz : Nat) {this : Nat} {p0 : Int32} {p1 : Int32} {p2 : UInt64} {h hh : Hp} {rr : UInt64} (hF : f_X9_put this p0 p1 p2 h = some (rr, hh)) : ab_C l D cA sz yX9_put cX9_put 5 (some .double) 1 0 0 [.ref this, .int p0, .int p1, .double p2] h (some (.double rr)) hh := by
  refine Met.ofW (cc := cX9_put) (maxL := 5) (ret := (some .double)) (by decide) rfl ?_
  intro p e s m args below meth c s₁ B hml hv
  obtain ⟨rfl, hT, hR⟩ := hv
  have X : ab_X p s m _ meth c cX9_put 5 RX9 D cA sz := (ab_enter B hml hT hR).1
  have S := (ab_enter B hml hT hR).2
  have hr := B.returns
  obtain ⟨ls, hls, hl⟩ := ab_entry m [.ref this, .int p0, .int p1, .double p2] 5 (lv := [(0, .ref this), (1, .int p0), (2, .int p1), (3, .double p2)]) (by simp [lg_sl, ab_cat, ab_cI, ab_cJ, ab_cD, ab_cF, ab_cA]) (by simp [lv_args, ab_cat, ab_cI, ab_cJ, ab_cD, ab_cF, ab_cA])
  rw [hls]
  have hl : lv_has ls 5 [(0, va_rf (some this)), (1, .int p0), (2, .int p1), (3, .double p2)] := hl
  unfold f_X9_put at hF
  show W p l e (ab_rm 1 0 0) s m _ below meth c s.heap [] 0 0 _ _
  refine ab_aload_n X dX9_put_0 rfl (lv_at hl 0 rfl) ?_
  refine ab_getR X S hF fi_9_1 lf_X9_15 dX9_put_1 (fun x1 hF => ?_)
  refine lv_iload_n X.1 X.2.1 dX9_put_4 rfl (lv_at hl 1 rfl) ?_
  refine ab_aldI X S hF dX9_put_5 (fun x2 hF => ?_)
  refine lv_iload_n X.1 X.2.1 dX9_put_6 rfl (lv_at hl 2 rfl) ?_
  refine lv_ishr X.1 X.2.1 dX9_put_7 ?_
  refine lv_iconst (v := 1) X.1 X.2.1 dX9_put_8 (by decide) ?_
  refine lv_iand X.1 X.2.1 dX9_put_9 ?_
  refine lv_iconst (v := 1) X.1 X.2.1 dX9_put_10 (by decide) ?_
  refine lv_icmp_ne (tgt := 27) X.1 X.2.1 dX9_put_11 (by decide) (fun c3 => ?_) (fun c3 => ?_)
  · have hF := ab_pos c3 hF
    exact w_X9_put_27 X hr  S (lv_sub hl [3] rfl) hF
  · have hF := ab_neg (fun q => q c3) hF
    refine lv_dload_n X.1 X.2.1 dX9_put_14 rfl (lv_at hl 3 rfl) ?_
    obtain ⟨x4, h5, e6, hF⟩ := bnd_out hF
    refine ab_callSi X S (c_X9_isNumber l D cA sz e6) mi_X9_isNumber lm_X9_189 lt_yX9_isNumber (As := [.double p2]) (rest := []) rfl ⟨by decide, by decide⟩ ⟨by decide, by decide⟩ hl.1 rfl (by simp [ab_cat, ab_cI, ab_cJ, ab_cD, ab_cF]) dX9_put_15 (fun H1 locs1 S => ?_)
    refine lv_if_eq (tgt := 27) X.1 X.2.1 dX9_put_18 (by decide) (fun c7 => ?_) (fun c7 => ?_)
    · have hF := ab_pos c7 hF
      exact w_X9_put_27 X hr  S (lv_sub hl [3] rfl) hF
    · have hF := ab_neg c7 hF
      refine lv_dload_n X.1 X.2.1 dX9_put_21 rfl (lv_at hl 3 rfl) ?_
      obtain ⟨x8, ev, ne, hF⟩ := ab_fopx32 hF
      refine lv_d2f X.1 X.2.1 dX9_put_22 ne ?_
      rw [ev]
      obtain ⟨x9, ev, ne, hF⟩ := ab_fopx hF
      refine lv_f2d X.1 X.2.1 dX9_put_23 ne ?_
      rw [ev]
      refine lv_goto (tgt := 28) X.1 X.2.1 dX9_put_24 (by decide) ?_
      exact w_X9_put_28 X hr  S (lv_sub hl [] rfl) hF
def f_X9_signalAt_124  (v0 : Option Nat) (v6 : Int32) (h : Hp) : Option (UInt64 × Hp) :=
  (getR h v0 9 13).bind fun x1 =>
  (aldD h x1 v6).bind fun x2 =>
  some (x2, h)
set_option maxHeartbeats 4000000 in
set_option maxRecDepth 100000 in
theorem w_X9_signalAt_124 {p : Program} {l : Launch} {e : Env} {s : State} {m : MethodId} {args : Array Value} {below : List Frame} {meth : Method} {c : Code} {D : va_G} {cA : Nat → ClassId} {sz : Nat} {rr : UInt64} {hh : Hp}  (X : ab_X p s m args meth c cX9_signalAt 7 RX9 D cA sz) (hr : meth.sig.returnType = (some .double))  {H : Heap} {locs : List Loc} {ls : Array Slot} {v0 : Option Nat} {v6 : Int32} {h : Hp} (S : ab_H D cA sz h s H locs) (hl : lv_has ls 7 [(0, va_rf v0), (6, .int v6)]) (hF : f_X9_signalAt_124 v0 v6 h = some (rr, hh)) : W p l e (ab_rm 2 0 0) s m args below meth c H locs 0 0 (MQ below (ab_Q D cA sz (some (.double rr)) hh) args s 0 0 (fun q => sz ≤ q)) (F0 m 124 ls []) := by
  unfold f_X9_signalAt_124 at hF
  refine ab_aload_n X dX9_signalAt_124 rfl (lv_at hl 0 rfl) ?_
  refine ab_getR X S hF fi_9_13 lf_X9_49 dX9_signalAt_125 (fun x1 hF => ?_)
  refine lv_iload X.1 X.2.1 dX9_signalAt_128 (lv_at hl 1 rfl) ?_
  refine ab_aldD X S hF dX9_signalAt_130 (fun x2 hF => ?_)
  exact ab_dret X S hr hF dX9_signalAt_131
def f_X9_signalAt_83  : Nat → Option Nat → Int32 → UInt64 → Int32 → Hp → Option (UInt64 × Hp)
  | 0, _, _, _, _, _ => none
  | n + 1, v0, v1, v2, v6, h => (getR h v0 9 12).bind fun x1 =>
    (aldD h x1 (v6 + 1)).bind fun x2 =>
    if 0 < (Op.cmpValue (FP.dcmp x2 v2) CmpOp.g) then
      (getR h v0 9 10).bind fun x4 =>
      (aldI h x4 11 v1).bind fun x5 =>
      if x5 = 0 then
        f_X9_signalAt_124 v0 v6 h
      else
        (getR h v0 9 12).bind fun x7 =>
        (aldD h x7 v6).bind fun x8 =>
        if ¬ (Op.cmpValue (FP.dcmp x8 v2) CmpOp.l) = 0 then
          (getR h v0 9 13).bind fun x10 =>
          (aldD h x10 v6).bind fun x11 =>
          (getR h v0 9 13).bind fun x12 =>
          (aldD h x12 (v6 + 1)).bind fun x13 =>
          (getR h v0 9 13).bind fun x14 =>
          (aldD h x14 v6).bind fun x15 =>
          bnd (f_X9_less x13 x15 h) fun x16 h17 =>
          (getR h17 v0 9 12).bind fun x19 =>
          (aldD h17 x19 v6).bind fun x20 =>
          bnd (f_X9_less v2 x20 h17) fun x21 h22 =>
          (getR h22 v0 9 12).bind fun x24 =>
          (aldD h22 x24 (v6 + 1)).bind fun x25 =>
          (getR h22 v0 9 12).bind fun x26 =>
          (aldD h22 x26 v6).bind fun x27 =>
          bnd (f_X9_less x25 x27 h22) fun x28 h29 =>
          bnd (f_X9_by x21 x28 h29) fun x31 h32 =>
          bnd (f_X9_times x16 x31 h32) fun x34 h35 =>
          bnd (f_X9_plus x11 x34 h35) fun x37 h38 =>
          some (x37, h38)
        else
          f_X9_signalAt_124 v0 v6 h
    else
      f_X9_signalAt_83 n v0 v1 v2 (v6 + 1) h
set_option maxHeartbeats 4000000 in
set_option maxRecDepth 100000 in
theorem w_X9_signalAt_83 {p : Program} {l : Launch} {e : Env} {s : State} {m : MethodId} {args : Array Value} {below : List Frame} {meth : Method} {c : Code} {D : va_G} {cA : Nat → ClassId} {sz : Nat} {rr : UInt64} {hh : Hp}  (X : ab_X p s m args meth c cX9_signalAt 7 RX9 D cA sz) (hr : meth.sig.returnType = (some .double))  (n : Nat) : ∀ (v0 : Option Nat) (v1 : Int32) (v2 : UInt64) (v6 : Int32) (h : Hp) (H : Heap) (locs : List Loc) (ls : Array Slot), ab_H D cA sz h s H locs → lv_has ls 7 [(0, va_rf v0), (1, .int v1), (2, .double v2), (6, .int v6)] → f_X9_signalAt_83 n v0 v1 v2 v6 h = some (rr, hh) → W p l e (ab_rm 2 0 0) s m args below meth c H locs 0 0 (MQ below (ab_Q D cA sz (some (.double rr)) hh) args s 0 0 (fun q => sz ≤ q)) (F0 m 83 ls []) := by
  induction n with
  | zero => intro v0 v1 v2 v6 h H locs ls S hl hF; cases hF
  | succ n ih =>
    intro v0 v1 v2 v6 h H locs ls S hl hF
    rw [f_X9_signalAt_83] at hF
    refine ab_aload_n X dX9_signalAt_83 rfl (lv_at hl 0 rfl) ?_
    refine ab_getR X S hF fi_9_12 lf_X9_46 dX9_signalAt_84 (fun x1 hF => ?_)
    refine lv_iload X.1 X.2.1 dX9_signalAt_87 (lv_at hl 3 rfl) ?_
    refine lv_iconst (v := 1) X.1 X.2.1 dX9_signalAt_89 (by decide) ?_
    refine lv_iadd X.1 X.2.1 dX9_signalAt_90 ?_
    refine ab_aldD X S hF dX9_signalAt_91 (fun x2 hF => ?_)
    refine lv_dload_n X.1 X.2.1 dX9_signalAt_92 rfl (lv_at hl 2 rfl) ?_
    refine lv_dcmp X.1 X.2.1 dX9_signalAt_93 ?_
    refine lv_if_gt (tgt := 103) X.1 X.2.1 dX9_signalAt_94 (by decide) (fun c3 => ?_) (fun c3 => ?_)
    · have hF := ab_pos c3 hF
      refine ab_aload_n X dX9_signalAt_103 rfl (lv_at hl 0 rfl) ?_
      refine ab_getR X S hF fi_9_10 lf_X9_40 dX9_signalAt_104 (fun x4 hF => ?_)
      refine lv_iload_n X.1 X.2.1 dX9_signalAt_107 rfl (lv_at hl 1 rfl) ?_
      refine ab_aldI X S hF dX9_signalAt_108 (fun x5 hF => ?_)
      refine lv_if_eq (tgt := 124) X.1 X.2.1 dX9_signalAt_109 (by decide) (fun c6 => ?_) (fun c6 => ?_)
      · have hF := ab_pos c6 hF
        exact w_X9_signalAt_124 X hr  S (lv_sub hl [0, 3] rfl) hF
      · have hF := ab_neg c6 hF
        refine ab_aload_n X dX9_signalAt_112 rfl (lv_at hl 0 rfl) ?_
        refine ab_getR X S hF fi_9_12 lf_X9_46 dX9_signalAt_113 (fun x7 hF => ?_)
        refine lv_iload X.1 X.2.1 dX9_signalAt_116 (lv_at hl 3 rfl) ?_
        refine ab_aldD X S hF dX9_signalAt_118 (fun x8 hF => ?_)
        refine lv_dload_n X.1 X.2.1 dX9_signalAt_119 rfl (lv_at hl 2 rfl) ?_
        refine lv_dcmp X.1 X.2.1 dX9_signalAt_120 ?_
        refine lv_if_ne (tgt := 132) X.1 X.2.1 dX9_signalAt_121 (by decide) (fun c9 => ?_) (fun c9 => ?_)
        · have hF := ab_pos c9 hF
          refine ab_aload_n X dX9_signalAt_132 rfl (lv_at hl 0 rfl) ?_
          refine ab_getR X S hF fi_9_13 lf_X9_49 dX9_signalAt_133 (fun x10 hF => ?_)
          refine lv_iload X.1 X.2.1 dX9_signalAt_136 (lv_at hl 3 rfl) ?_
          refine ab_aldD X S hF dX9_signalAt_138 (fun x11 hF => ?_)
          refine ab_aload_n X dX9_signalAt_139 rfl (lv_at hl 0 rfl) ?_
          refine ab_getR X S hF fi_9_13 lf_X9_49 dX9_signalAt_140 (fun x12 hF => ?_)
          refine lv_iload X.1 X.2.1 dX9_signalAt_143 (lv_at hl 3 rfl) ?_
          refine lv_iconst (v := 1) X.1 X.2.1 dX9_signalAt_145 (by decide) ?_
          refine lv_iadd X.1 X.2.1 dX9_signalAt_146 ?_
          refine ab_aldD X S hF dX9_signalAt_147 (fun x13 hF => ?_)
          refine ab_aload_n X dX9_signalAt_148 rfl (lv_at hl 0 rfl) ?_
          refine ab_getR X S hF fi_9_13 lf_X9_49 dX9_signalAt_149 (fun x14 hF => ?_)
          refine lv_iload X.1 X.2.1 dX9_signalAt_152 (lv_at hl 3 rfl) ?_
          refine ab_aldD X S hF dX9_signalAt_154 (fun x15 hF => ?_)
          obtain ⟨x16, h17, e18, hF⟩ := bnd_out hF
          refine ab_callSd X S (c_X9_less l D cA sz e18) mi_X9_less lm_X9_204 lt_yX9_less (As := [.double x13, .double x15]) (rest := [.double x11]) rfl ⟨by decide, by decide⟩ ⟨by decide, by decide⟩ hl.1 rfl (by simp [ab_cat, ab_cI, ab_cJ, ab_cD, ab_cF]) dX9_signalAt_155 (fun H1 locs1 S => ?_)
          refine lv_dload_n X.1 X.2.1 dX9_signalAt_158 rfl (lv_at hl 2 rfl) ?_
          refine ab_aload_n X dX9_signalAt_159 rfl (lv_at hl 0 rfl) ?_
          refine ab_getR X S hF fi_9_12 lf_X9_46 dX9_signalAt_160 (fun x19 hF => ?_)
          refine lv_iload X.1 X.2.1 dX9_signalAt_163 (lv_at hl 3 rfl) ?_
          refine ab_aldD X S hF dX9_signalAt_165 (fun x20 hF => ?_)
          obtain ⟨x21, h22, e23, hF⟩ := bnd_out hF
          refine ab_callSd X S (c_X9_less l D cA sz e23) mi_X9_less lm_X9_204 lt_yX9_less (As := [.double v2, .double x20]) (rest := [.double x16, .double x11]) rfl ⟨by decide, by decide⟩ ⟨by decide, by decide⟩ hl.1 rfl (by simp [ab_cat, ab_cI, ab_cJ, ab_cD, ab_cF]) dX9_signalAt_166 (fun H1 locs1 S => ?_)
          refine ab_aload_n X dX9_signalAt_169 rfl (lv_at hl 0 rfl) ?_
          refine ab_getR X S hF fi_9_12 lf_X9_46 dX9_signalAt_170 (fun x24 hF => ?_)
          refine lv_iload X.1 X.2.1 dX9_signalAt_173 (lv_at hl 3 rfl) ?_
          refine lv_iconst (v := 1) X.1 X.2.1 dX9_signalAt_175 (by decide) ?_
          refine lv_iadd X.1 X.2.1 dX9_signalAt_176 ?_
          refine ab_aldD X S hF dX9_signalAt_177 (fun x25 hF => ?_)
          refine ab_aload_n X dX9_signalAt_178 rfl (lv_at hl 0 rfl) ?_
          refine ab_getR X S hF fi_9_12 lf_X9_46 dX9_signalAt_179 (fun x26 hF => ?_)
          refine lv_iload X.1 X.2.1 dX9_signalAt_182 (lv_at hl 3 rfl) ?_
          refine ab_aldD X S hF dX9_signalAt_184 (fun x27 hF => ?_)
          obtain ⟨x28, h29, e30, hF⟩ := bnd_out hF
          refine ab_callSd X S (c_X9_less l D cA sz e30) mi_X9_less lm_X9_204 lt_yX9_less (As := [.double x25, .double x27]) (rest := [.double x21, .double x16, .double x11]) rfl ⟨by decide, by decide⟩ ⟨by decide, by decide⟩ hl.1 rfl (by simp [ab_cat, ab_cI, ab_cJ, ab_cD, ab_cF]) dX9_signalAt_185 (fun H1 locs1 S => ?_)
          obtain ⟨x31, h32, e33, hF⟩ := bnd_out hF
          refine ab_callSd X S (c_X9_by l D cA sz e33) mi_X9_by lm_X9_208 lt_yX9_by (As := [.double x21, .double x28]) (rest := [.double x16, .double x11]) rfl ⟨by decide, by decide⟩ ⟨by decide, by decide⟩ hl.1 rfl (by simp [ab_cat, ab_cI, ab_cJ, ab_cD, ab_cF]) dX9_signalAt_188 (fun H1 locs1 S => ?_)
          obtain ⟨x34, h35, e36, hF⟩ := bnd_out hF
          refine ab_callSd X S (c_X9_times l D cA sz e36) mi_X9_times lm_X9_211 lt_yX9_times (As := [.double x16, .double x31]) (rest := [.double x11]) rfl ⟨by decide, by decide⟩ ⟨by decide, by decide⟩ hl.1 rfl (by simp [ab_cat, ab_cI, ab_cJ, ab_cD, ab_cF]) dX9_signalAt_191 (fun H1 locs1 S => ?_)
          obtain ⟨x37, h38, e39, hF⟩ := bnd_out hF
          refine ab_callSd X S (c_X9_plus l D cA sz e39) mi_X9_plus lm_X9_214 lt_yX9_plus (As := [.double x11, .double x34]) (rest := []) rfl ⟨by decide, by decide⟩ ⟨by decide, by decide⟩ hl.1 rfl (by simp [ab_cat, ab_cI, ab_cJ, ab_cD, ab_cF]) dX9_signalAt_194 (fun H1 locs1 S => ?_)
          exact ab_dret X S hr hF dX9_signalAt_197
        · have hF := ab_neg (fun q => q c9) hF
          exact w_X9_signalAt_124 X hr  S (lv_sub hl [0, 3] rfl) hF
    · have hF := ab_neg c3 hF
      refine lv_iinc (v := v6 + 1) (lv' := [(6, .int (v6 + 1)), (0, va_rf v0), (1, .int v1), (2, .double v2)]) X.1 X.2.1 dX9_signalAt_97 hl (k := 3) rfl (by rfl) (by decide) (by simp [ab_cat, ab_cI, ab_cJ, ab_cD, ab_cF]) (fun ls hl => ?_)
      refine lv_goto (tgt := 83) X.1 X.2.1 dX9_signalAt_100 (by decide) ?_
      exact ih _ _ _ _ _ _ _ _ S (lv_sub hl [1, 2, 3, 0] rfl) hF
def f_X9_signalAt (this : Nat) (p0 : Int32) (p1 : UInt64) (h : Hp) : Option (UInt64 × Hp) :=
  (getR h (some this) 9 11).bind fun x1 =>
  (aldI h x1 11 p0).bind fun x2 =>
  if ¬ x2 = 0 then
    if (Op.cmpValue (FP.dcmp p1 p1) CmpOp.l) = 0 then
      (getR h (some this) 9 12).bind fun x5 =>
      (aldD h x5 (16 * p0)).bind fun x6 =>
      if 0 < (Op.cmpValue (FP.dcmp p1 x6) CmpOp.g) then
        (getR h (some this) 9 12).bind fun x8 =>
        (aldD h x8 (((16 * p0) + x2) - 1)).bind fun x9 =>
        if (Op.cmpValue (FP.dcmp p1 x9) CmpOp.l) < 0 then
          f_X9_signalAt_83 fuelN (some this) p0 p1 (16 * p0) h
        else
          (getR h (some this) 9 13).bind fun x11 =>
          (aldD h x11 (((16 * p0) + x2) - 1)).bind fun x12 =>
          some (x12, h)
      else
        (getR h (some this) 9 13).bind fun x13 =>
        (aldD h x13 (16 * p0)).bind fun x14 =>
        some (x14, h)
    else
      some (p1, h)
  else
    some (FP.dconst0, h)
theorem mi_X9_signalAt : ab_MI yX9_signalAt cX9_signalAt 7 (some .double) 2 := ⟨lc_yX9_signalAt, lz_RX9, by decide, by decide, by decide +kernel⟩
set_option maxHeartbeats 4000000 in
set_option maxRecDepth 100000 in
theorem c_X9_signalAt (l : Launch) (D : va_G) (cA : Nat → ClassId) (sz : Nat) {this : Nat} {p0 : Int32} {p1 : UInt64} {h hh : Hp} {rr : UInt64} (hF : f_X9_signalAt this p0 p1 h = some (rr, hh)) : ab_C l D cA sz yX9_signalAt cX9_signalAt 7 (some .double) 2 0 0 [.ref this, .int p0, .double p1] h (some (.double rr)) hh := by
  refine Met.ofW (cc := cX9_signalAt) (maxL := 7) (ret := (some .double)) (by decide) rfl ?_
  intro p e s m args below meth c s₁ B hml hv
  obtain ⟨rfl, hT, hR⟩ := hv
  have X : ab_X p s m _ meth c cX9_signalAt 7 RX9 D cA sz := (ab_enter B hml hT hR).1
  have S := (ab_enter B hml hT hR).2
  have hr := B.returns
  obtain ⟨ls, hls, hl⟩ := ab_entry m [.ref this, .int p0, .double p1] 7 (lv := [(0, .ref this), (1, .int p0), (2, .double p1)]) (by simp [lg_sl, ab_cat, ab_cI, ab_cJ, ab_cD, ab_cF, ab_cA]) (by simp [lv_args, ab_cat, ab_cI, ab_cJ, ab_cD, ab_cF, ab_cA])
  rw [hls]
  have hl : lv_has ls 7 [(0, va_rf (some this)), (1, .int p0), (2, .double p1)] := hl
  unfold f_X9_signalAt at hF
  show W p l e (ab_rm 2 0 0) s m _ below meth c s.heap [] 0 0 _ _
  refine ab_aload_n X dX9_signalAt_0 rfl (lv_at hl 0 rfl) ?_
  refine ab_getR X S hF fi_9_11 lf_X9_43 dX9_signalAt_1 (fun x1 hF => ?_)
  refine lv_iload_n X.1 X.2.1 dX9_signalAt_4 rfl (lv_at hl 1 rfl) ?_
  refine ab_aldI X S hF dX9_signalAt_5 (fun x2 hF => ?_)
  refine lv_istore (lv' := [(4, .int x2), (0, va_rf (some this)), (1, .int p0), (2, .double p1)]) X.1 X.2.1 dX9_signalAt_6 hl (by decide) (by simp [ab_cat, ab_cI, ab_cJ, ab_cD, ab_cF]) (fun ls hl => ?_)
  refine lv_iload X.1 X.2.1 dX9_signalAt_8 (lv_at hl 0 rfl) ?_
  refine lv_if_ne (tgt := 15) X.1 X.2.1 dX9_signalAt_10 (by decide) (fun c3 => ?_) (fun c3 => ?_)
  · have hF := ab_pos c3 hF
    refine lv_dload_n X.1 X.2.1 dX9_signalAt_15 rfl (lv_at hl 3 rfl) ?_
    refine lv_dload_n X.1 X.2.1 dX9_signalAt_16 rfl (lv_at hl 3 rfl) ?_
    refine lv_dcmp X.1 X.2.1 dX9_signalAt_17 ?_
    refine lv_if_eq (tgt := 23) X.1 X.2.1 dX9_signalAt_18 (by decide) (fun c4 => ?_) (fun c4 => ?_)
    · have hF := ab_pos c4 hF
      refine lv_bipush (v := 16) X.1 X.2.1 dX9_signalAt_23 (by decide) ?_
      refine lv_iload_n X.1 X.2.1 dX9_signalAt_25 rfl (lv_at hl 2 rfl) ?_
      refine lv_imul X.1 X.2.1 dX9_signalAt_26 ?_
      refine lv_istore (lv' := [(5, .int (16 * p0)), (4, .int x2), (0, va_rf (some this)), (1, .int p0), (2, .double p1)]) X.1 X.2.1 dX9_signalAt_27 hl (by decide) (by simp [ab_cat, ab_cI, ab_cJ, ab_cD, ab_cF]) (fun ls hl => ?_)
      refine lv_dload_n X.1 X.2.1 dX9_signalAt_29 rfl (lv_at hl 4 rfl) ?_
      refine ab_aload_n X dX9_signalAt_30 rfl (lv_at hl 2 rfl) ?_
      refine ab_getR X S hF fi_9_12 lf_X9_46 dX9_signalAt_31 (fun x5 hF => ?_)
      refine lv_iload X.1 X.2.1 dX9_signalAt_34 (lv_at hl 0 rfl) ?_
      refine ab_aldD X S hF dX9_signalAt_36 (fun x6 hF => ?_)
      refine lv_dcmp X.1 X.2.1 dX9_signalAt_37 ?_
      refine lv_if_gt (tgt := 49) X.1 X.2.1 dX9_signalAt_38 (by decide) (fun c7 => ?_) (fun c7 => ?_)
      · have hF := ab_pos c7 hF
        refine lv_dload_n X.1 X.2.1 dX9_signalAt_49 rfl (lv_at hl 4 rfl) ?_
        refine ab_aload_n X dX9_signalAt_50 rfl (lv_at hl 2 rfl) ?_
        refine ab_getR X S hF fi_9_12 lf_X9_46 dX9_signalAt_51 (fun x8 hF => ?_)
        refine lv_iload X.1 X.2.1 dX9_signalAt_54 (lv_at hl 0 rfl) ?_
        refine lv_iload X.1 X.2.1 dX9_signalAt_56 (lv_at hl 1 rfl) ?_
        refine lv_iadd X.1 X.2.1 dX9_signalAt_58 ?_
        refine lv_iconst (v := 1) X.1 X.2.1 dX9_signalAt_59 (by decide) ?_
        refine lv_isub X.1 X.2.1 dX9_signalAt_60 ?_
        refine ab_aldD X S hF dX9_signalAt_61 (fun x9 hF => ?_)
        refine lv_dcmp X.1 X.2.1 dX9_signalAt_62 ?_
        refine lv_if_lt (tgt := 79) X.1 X.2.1 dX9_signalAt_63 (by decide) (fun c10 => ?_) (fun c10 => ?_)
        · have hF := ab_pos c10 hF
          refine lv_iload X.1 X.2.1 dX9_signalAt_79 (lv_at hl 0 rfl) ?_
          refine lv_istore (lv' := [(6, .int (16 * p0)), (5, .int (16 * p0)), (4, .int x2), (0, va_rf (some this)), (1, .int p0), (2, .double p1)]) X.1 X.2.1 dX9_signalAt_81 hl (by decide) (by simp [ab_cat, ab_cI, ab_cJ, ab_cD, ab_cF]) (fun ls hl => ?_)
          exact w_X9_signalAt_83 X hr  fuelN _ _ _ _ _ _ _ _ S (lv_sub hl [3, 4, 5, 0] rfl) hF
        · have hF := ab_neg c10 hF
          refine ab_aload_n X dX9_signalAt_66 rfl (lv_at hl 2 rfl) ?_
          refine ab_getR X S hF fi_9_13 lf_X9_49 dX9_signalAt_67 (fun x11 hF => ?_)
          refine lv_iload X.1 X.2.1 dX9_signalAt_70 (lv_at hl 0 rfl) ?_
          refine lv_iload X.1 X.2.1 dX9_signalAt_72 (lv_at hl 1 rfl) ?_
          refine lv_iadd X.1 X.2.1 dX9_signalAt_74 ?_
          refine lv_iconst (v := 1) X.1 X.2.1 dX9_signalAt_75 (by decide) ?_
          refine lv_isub X.1 X.2.1 dX9_signalAt_76 ?_
          refine ab_aldD X S hF dX9_signalAt_77 (fun x12 hF => ?_)
          exact ab_dret X S hr hF dX9_signalAt_78
      · have hF := ab_neg c7 hF
        refine ab_aload_n X dX9_signalAt_41 rfl (lv_at hl 2 rfl) ?_
        refine ab_getR X S hF fi_9_13 lf_X9_49 dX9_signalAt_42 (fun x13 hF => ?_)
        refine lv_iload X.1 X.2.1 dX9_signalAt_45 (lv_at hl 0 rfl) ?_
        refine ab_aldD X S hF dX9_signalAt_47 (fun x14 hF => ?_)
        exact ab_dret X S hr hF dX9_signalAt_48
    · have hF := ab_neg c4 hF
      refine lv_dload_n X.1 X.2.1 dX9_signalAt_21 rfl (lv_at hl 3 rfl) ?_
      exact ab_dret X S hr hF dX9_signalAt_22
  · have hF := ab_neg (fun q => q c3) hF
    refine lv_dconst0 X.1 X.2.1 dX9_signalAt_13 ?_
    exact ab_dret X S hr hF dX9_signalAt_14
def f_X9_power_5  : Nat → UInt64 → Int32 → UInt64 → Int32 → Hp → Option (UInt64 × Hp)
  | 0, _, _, _, _, _ => none
  | n + 1, v0, v2, v3, v5, h => if v2 ≤ v5 then
      some (v3, h)
    else
      bnd (f_X9_times v3 v0 h) fun x2 h3 =>
      f_X9_power_5 n v0 v2 x2 (v5 + 1) h3
set_option maxHeartbeats 4000000 in
set_option maxRecDepth 100000 in
theorem w_X9_power_5 {p : Program} {l : Launch} {e : Env} {s : State} {m : MethodId} {args : Array Value} {below : List Frame} {meth : Method} {c : Code} {D : va_G} {cA : Nat → ClassId} {sz : Nat} {rr : UInt64} {hh : Hp}  (X : ab_X p s m args meth c cX9_power 6 RX9 D cA sz) (hr : meth.sig.returnType = (some .double))  (n : Nat) : ∀ (v0 : UInt64) (v2 : Int32) (v3 : UInt64) (v5 : Int32) (h : Hp) (H : Heap) (locs : List Loc) (ls : Array Slot), ab_H D cA sz h s H locs → lv_has ls 6 [(0, .double v0), (2, .int v2), (3, .double v3), (5, .int v5)] → f_X9_power_5 n v0 v2 v3 v5 h = some (rr, hh) → W p l e (ab_rm 2 0 0) s m args below meth c H locs 0 0 (MQ below (ab_Q D cA sz (some (.double rr)) hh) args s 0 0 (fun q => sz ≤ q)) (F0 m 5 ls []) := by
  induction n with
  | zero => intro v0 v2 v3 v5 h H locs ls S hl hF; cases hF
  | succ n ih =>
    intro v0 v2 v3 v5 h H locs ls S hl hF
    rw [f_X9_power_5] at hF
    refine lv_iload X.1 X.2.1 dX9_power_5 (lv_at hl 3 rfl) ?_
    refine lv_iload_n X.1 X.2.1 dX9_power_7 rfl (lv_at hl 1 rfl) ?_
    refine lv_icmp_ge (tgt := 23) X.1 X.2.1 dX9_power_8 (by decide) (fun c1 => ?_) (fun c1 => ?_)
    · have hF := ab_pos c1 hF
      refine lv_dload_n X.1 X.2.1 dX9_power_23 rfl (lv_at hl 2 rfl) ?_
      exact ab_dret X S hr hF dX9_power_24
    · have hF := ab_neg c1 hF
      refine lv_dload_n X.1 X.2.1 dX9_power_11 rfl (lv_at hl 2 rfl) ?_
      refine lv_dload_n X.1 X.2.1 dX9_power_12 rfl (lv_at hl 0 rfl) ?_
      obtain ⟨x2, h3, e4, hF⟩ := bnd_out hF
      refine ab_callSd X S (c_X9_times l D cA sz e4) mi_X9_times lm_X9_211 lt_yX9_times (As := [.double v3, .double v0]) (rest := []) rfl ⟨by decide, by decide⟩ ⟨by decide, by decide⟩ hl.1 rfl (by simp [ab_cat, ab_cI, ab_cJ, ab_cD, ab_cF]) dX9_power_13 (fun H1 locs1 S => ?_)
      refine lv_dstore_n (i := 3) (lv' := [(3, .double x2), (0, .double v0), (2, .int v2), (5, .int v5)]) X.1 X.2.1 dX9_power_16 rfl hl (by decide) (by simp [ab_cat, ab_cI, ab_cJ, ab_cD, ab_cF]) (fun ls hl => ?_)
      refine lv_iinc (v := v5 + 1) (lv' := [(5, .int (v5 + 1)), (3, .double x2), (0, .double v0), (2, .int v2)]) X.1 X.2.1 dX9_power_17 hl (k := 3) rfl (by rfl) (by decide) (by simp [ab_cat, ab_cI, ab_cJ, ab_cD, ab_cF]) (fun ls hl => ?_)
      refine lv_goto (tgt := 5) X.1 X.2.1 dX9_power_20 (by decide) ?_
      exact ih _ _ _ _ _ _ _ _ S (lv_sub hl [2, 3, 1, 0] rfl) hF
def f_X9_power (p0 : UInt64) (p1 : Int32) (h : Hp) : Option (UInt64 × Hp) :=
  f_X9_power_5 fuelN p0 p1 FP.dconst1 0 h
theorem mi_X9_power : ab_MI yX9_power cX9_power 6 (some .double) 2 := ⟨lc_yX9_power, lz_RX9, by decide, by decide, by decide +kernel⟩
set_option maxHeartbeats 4000000 in
set_option maxRecDepth 100000 in
theorem c_X9_power (l : Launch) (D : va_G) (cA : Nat → ClassId) (sz : Nat) {p0 : UInt64} {p1 : Int32} {h hh : Hp} {rr : UInt64} (hF : f_X9_power p0 p1 h = some (rr, hh)) : ab_C l D cA sz yX9_power cX9_power 6 (some .double) 2 0 0 [.double p0, .int p1] h (some (.double rr)) hh := by
  refine Met.ofW (cc := cX9_power) (maxL := 6) (ret := (some .double)) (by decide) rfl ?_
  intro p e s m args below meth c s₁ B hml hv
  obtain ⟨rfl, hT, hR⟩ := hv
  have X : ab_X p s m _ meth c cX9_power 6 RX9 D cA sz := (ab_enter B hml hT hR).1
  have S := (ab_enter B hml hT hR).2
  have hr := B.returns
  obtain ⟨ls, hls, hl⟩ := ab_entry m [.double p0, .int p1] 6 (lv := [(0, .double p0), (2, .int p1)]) (by simp [lg_sl, ab_cat, ab_cI, ab_cJ, ab_cD, ab_cF, ab_cA]) (by simp [lv_args, ab_cat, ab_cI, ab_cJ, ab_cD, ab_cF, ab_cA])
  rw [hls]
  have hl : lv_has ls 6 [(0, .double p0), (2, .int p1)] := hl
  unfold f_X9_power at hF
  show W p l e (ab_rm 2 0 0) s m _ below meth c s.heap [] 0 0 _ _
  refine lv_dconst1 X.1 X.2.1 dX9_power_0 ?_
  refine lv_dstore_n (i := 3) (lv' := [(3, .double FP.dconst1), (0, .double p0), (2, .int p1)]) X.1 X.2.1 dX9_power_1 rfl hl (by decide) (by simp [ab_cat, ab_cI, ab_cJ, ab_cD, ab_cF]) (fun ls hl => ?_)
  refine lv_iconst (v := 0) X.1 X.2.1 dX9_power_2 (by decide) ?_
  refine lv_istore (lv' := [(5, .int 0), (3, .double FP.dconst1), (0, .double p0), (2, .int p1)]) X.1 X.2.1 dX9_power_3 hl (by decide) (by simp [ab_cat, ab_cI, ab_cJ, ab_cD, ab_cF]) (fun ls hl => ?_)
  exact w_X9_power_5 X hr  fuelN _ _ _ _ _ _ _ _ S (lv_sub hl [2, 3, 1, 0] rfl) hF
def f_X9_worth_272  (u0 : UInt64) (h : Hp) : Option (UInt64 × Hp) :=
  some (u0, h)
set_option maxHeartbeats 4000000 in
set_option maxRecDepth 100000 in
theorem w_X9_worth_272 {p : Program} {l : Launch} {e : Env} {s : State} {m : MethodId} {args : Array Value} {below : List Frame} {meth : Method} {c : Code} {D : va_G} {cA : Nat → ClassId} {sz : Nat} {rr : UInt64} {hh : Hp}  (X : ab_X p s m args meth c cX9_worth 9 RX9 D cA sz) (hr : meth.sig.returnType = (some .double))  {H : Heap} {locs : List Loc} {ls : Array Slot} {u0 : UInt64} {h : Hp} (S : ab_H D cA sz h s H locs) (hl : lv_has ls 9 []) (hF : f_X9_worth_272 u0 h = some (rr, hh)) : W p l e (ab_rm 3 0 0) s m args below meth c H locs 0 0 (MQ below (ab_Q D cA sz (some (.double rr)) hh) args s 0 0 (fun q => sz ≤ q)) (F0 m 272 ls [.double u0]) := by
  unfold f_X9_worth_272 at hF
  exact ab_dret X S hr hF dX9_worth_272
def f_X9_worth (this : Nat) (p0 : Int32) (p1 : Int32) (p2 : UInt64) (p3 : Option Nat) (h : Hp) : Option (UInt64 × Hp) :=
  (getR h (some this) 9 5).bind fun x1 =>
  (aldI h x1 11 ((48 * p0) + p1)).bind fun x2 =>
  (getR h (some this) 9 6).bind fun x3 =>
  (aldI h x3 11 ((48 * p0) + p1)).bind fun x4 =>
  (getR h (some this) 9 4).bind fun x5 =>
  (aldI h x5 11 ((48 * p0) + p1)).bind fun x6 =>
  if x6.toInt < 0 ∨ 12 < x6.toInt then
    (getR h (some this) 9 8).bind fun x8 =>
    (aldD h x8 ((48 * p0) + p1)).bind fun x9 =>
    some (x9, h)
  else if x6 = 0 then
    (aldD h p3 x2).bind fun x11 =>
    some (x11, h)
  else if x6 = 1 then
    some (p2, h)
  else if x6 = 2 then
    (getR h (some this) 9 46).bind fun x14 =>
    (aldD h x14 x2).bind fun x15 =>
    (getR h (some this) 9 46).bind fun x16 =>
    (aldD h x16 x4).bind fun x17 =>
    bnd (f_X9_plus x15 x17 h) fun x18 h19 =>
    some (x18, h19)
  else if x6 = 3 then
    (getR h (some this) 9 46).bind fun x22 =>
    (aldD h x22 x2).bind fun x23 =>
    (getR h (some this) 9 46).bind fun x24 =>
    (aldD h x24 x4).bind fun x25 =>
    bnd (f_X9_less x23 x25 h) fun x26 h27 =>
    some (x26, h27)
  else if x6 = 4 then
    (getR h (some this) 9 46).bind fun x30 =>
    (aldD h x30 x2).bind fun x31 =>
    (getR h (some this) 9 46).bind fun x32 =>
    (aldD h x32 x4).bind fun x33 =>
    bnd (f_X9_times x31 x33 h) fun x34 h35 =>
    some (x34, h35)
  else if x6 = 5 then
    (getR h (some this) 9 46).bind fun x38 =>
    (aldD h x38 x2).bind fun x39 =>
    (getR h (some this) 9 46).bind fun x40 =>
    (aldD h x40 x4).bind fun x41 =>
    bnd (f_X9_by x39 x41 h) fun x42 h43 =>
    some (x42, h43)
  else if x6 = 6 then
    (getR h (some this) 9 46).bind fun x46 =>
    (aldD h x46 x2).bind fun x47 =>
    bnd (f_X9_turned x47 h) fun x48 h49 =>
    some (x48, h49)
  else if x6 = 7 then
    (getR h (some this) 9 46).bind fun x52 =>
    (aldD h x52 x2).bind fun x53 =>
    bnd (f_X9_size x53 h) fun x54 h55 =>
    some (x54, h55)
  else if x6 = 8 then
    (getR h (some this) 9 46).bind fun x58 =>
    (aldD h x58 x2).bind fun x59 =>
    (getR h (some this) 9 46).bind fun x60 =>
    (aldD h x60 x4).bind fun x61 =>
    bnd (f_X9_least x59 x61 h) fun x62 h63 =>
    some (x62, h63)
  else if x6 = 9 then
    (getR h (some this) 9 46).bind fun x66 =>
    (aldD h x66 x2).bind fun x67 =>
    (getR h (some this) 9 46).bind fun x68 =>
    (aldD h x68 x4).bind fun x69 =>
    bnd (f_X9_greatest x67 x69 h) fun x70 h71 =>
    some (x70, h71)
  else if x6 = 10 then
    (getR h (some this) 9 46).bind fun x74 =>
    (aldD h x74 x2).bind fun x75 =>
    if 0 ≤ (Op.cmpValue (FP.dcmp x75 FP.dconst0) CmpOp.g) then
      (getR h (some this) 9 46).bind fun x77 =>
      (getR h (some this) 9 7).bind fun x78 =>
      (aldI h x78 11 ((48 * p0) + p1)).bind fun x79 =>
      (aldD h x77 x79).bind fun x80 =>
      f_X9_worth_272 x80 h
    else
      (getR h (some this) 9 46).bind fun x81 =>
      (aldD h x81 x4).bind fun x82 =>
      f_X9_worth_272 x82 h
  else if x6 = 11 then
    (getR h (some this) 9 46).bind fun x84 =>
    (aldD h x84 x2).bind fun x85 =>
    bnd (f_X9_power x85 x4 h) fun x86 h87 =>
    some (x86, h87)
  else if x6 = 12 then
    (getR h (some this) 9 46).bind fun x90 =>
    (aldD h x90 x2).bind fun x91 =>
    (ab_ck h (some this) (9, 0)).bind fun a95 =>
    bnd (f_X9_signalAt a95 x4 x91 h) fun x92 h93 =>
    some (x92, h93)
  else none
theorem mi_X9_worth : ab_MI yX9_worth cX9_worth 9 (some .double) 4 := ⟨lc_yX9_worth, lz_RX9, by decide, by decide, by decide +kernel⟩
set_option maxHeartbeats 4000000 in
set_option maxRecDepth 100000 in
theorem c_X9_worth (l : Launch) (D : va_G) (cA : Nat → ClassId) (sz : Nat) {this : Nat} {p0 : Int32} {p1 : Int32} {p2 : UInt64} {p3 : Option Nat} {h hh : Hp} {rr : UInt64} (hF : f_X9_worth this p0 p1 p2 p3 h = some (rr, hh)) : ab_C l D cA sz yX9_worth cX9_worth 9 (some .double) 3 0 0 [.ref this, .int p0, .int p1, .double p2, va_rf p3] h (some (.double rr)) hh := by
  refine Met.ofW (cc := cX9_worth) (maxL := 9) (ret := (some .double)) (by decide) rfl ?_
  intro p e s m args below meth c s₁ B hml hv
  obtain ⟨rfl, hT, hR⟩ := hv
  have X : ab_X p s m _ meth c cX9_worth 9 RX9 D cA sz := (ab_enter B hml hT hR).1
  have S := (ab_enter B hml hT hR).2
  have hr := B.returns
  obtain ⟨ls, hls, hl⟩ := ab_entry m [.ref this, .int p0, .int p1, .double p2, va_rf p3] 9 (lv := [(0, .ref this), (1, .int p0), (2, .int p1), (3, .double p2), (5, va_rf p3)]) (by simp [lg_sl, ab_cat, ab_cI, ab_cJ, ab_cD, ab_cF, ab_cA]) (by simp [lv_args, ab_cat, ab_cI, ab_cJ, ab_cD, ab_cF, ab_cA])
  rw [hls]
  have hl : lv_has ls 9 [(0, va_rf (some this)), (1, .int p0), (2, .int p1), (3, .double p2), (5, va_rf p3)] := hl
  unfold f_X9_worth at hF
  show W p l e (ab_rm 3 0 0) s m _ below meth c s.heap [] 0 0 _ _
  refine lv_bipush (v := 48) X.1 X.2.1 dX9_worth_0 (by decide) ?_
  refine lv_iload_n X.1 X.2.1 dX9_worth_2 rfl (lv_at hl 1 rfl) ?_
  refine lv_imul X.1 X.2.1 dX9_worth_3 ?_
  refine lv_iload_n X.1 X.2.1 dX9_worth_4 rfl (lv_at hl 2 rfl) ?_
  refine lv_iadd X.1 X.2.1 dX9_worth_5 ?_
  refine lv_istore (lv' := [(6, .int ((48 * p0) + p1)), (0, va_rf (some this)), (1, .int p0), (2, .int p1), (3, .double p2), (5, va_rf p3)]) X.1 X.2.1 dX9_worth_6 hl (by decide) (by simp [ab_cat, ab_cI, ab_cJ, ab_cD, ab_cF]) (fun ls hl => ?_)
  refine ab_aload_n X dX9_worth_8 rfl (lv_at hl 1 rfl) ?_
  refine ab_getR X S hF fi_9_5 lf_X9_27 dX9_worth_9 (fun x1 hF => ?_)
  refine lv_iload X.1 X.2.1 dX9_worth_12 (lv_at hl 0 rfl) ?_
  refine ab_aldI X S hF dX9_worth_14 (fun x2 hF => ?_)
  refine lv_istore (lv' := [(7, .int x2), (6, .int ((48 * p0) + p1)), (0, va_rf (some this)), (1, .int p0), (2, .int p1), (3, .double p2), (5, va_rf p3)]) X.1 X.2.1 dX9_worth_15 hl (by decide) (by simp [ab_cat, ab_cI, ab_cJ, ab_cD, ab_cF]) (fun ls hl => ?_)
  refine ab_aload_n X dX9_worth_17 rfl (lv_at hl 2 rfl) ?_
  refine ab_getR X S hF fi_9_6 lf_X9_30 dX9_worth_18 (fun x3 hF => ?_)
  refine lv_iload X.1 X.2.1 dX9_worth_21 (lv_at hl 1 rfl) ?_
  refine ab_aldI X S hF dX9_worth_23 (fun x4 hF => ?_)
  refine lv_istore (lv' := [(8, .int x4), (7, .int x2), (6, .int ((48 * p0) + p1)), (0, va_rf (some this)), (1, .int p0), (2, .int p1), (3, .double p2), (5, va_rf p3)]) X.1 X.2.1 dX9_worth_24 hl (by decide) (by simp [ab_cat, ab_cI, ab_cJ, ab_cD, ab_cF]) (fun ls hl => ?_)
  refine ab_aload_n X dX9_worth_26 rfl (lv_at hl 3 rfl) ?_
  refine ab_getR X S hF fi_9_4 lf_X9_24 dX9_worth_27 (fun x5 hF => ?_)
  refine lv_iload X.1 X.2.1 dX9_worth_30 (lv_at hl 2 rfl) ?_
  refine ab_aldI X S hF dX9_worth_32 (fun x6 hF => ?_)
  by_cases c7 : x6.toInt < 0 ∨ 12 < x6.toInt
  · have hF := ab_pos c7 hF
    refine lv_tableOut (tgt := 300) X.1 X.2.1 dX9_worth_33 c7 (by decide) ?_
    refine ab_aload_n X dX9_worth_300 rfl (lv_at hl 3 rfl) ?_
    refine ab_getR X S hF fi_9_8 lf_X9_36 dX9_worth_301 (fun x8 hF => ?_)
    refine lv_iload X.1 X.2.1 dX9_worth_304 (lv_at hl 2 rfl) ?_
    refine ab_aldD X S hF dX9_worth_306 (fun x9 hF => ?_)
    exact ab_dret X S hr hF dX9_worth_307
  have hF := ab_neg c7 hF
  by_cases c10 : x6 = 0
  · have hF := ab_pos c10 hF
    refine ab_tab (tgt := 100) X dX9_worth_33 c10 (by decide) (by decide) rfl (by decide) ?_
    refine ab_aload X dX9_worth_100 (lv_at hl 7 rfl) ?_
    refine lv_iload X.1 X.2.1 dX9_worth_102 (lv_at hl 1 rfl) ?_
    refine ab_aldD X S hF dX9_worth_104 (fun x11 hF => ?_)
    exact ab_dret X S hr hF dX9_worth_105
  have hF := ab_neg c10 hF
  by_cases c12 : x6 = 1
  · have hF := ab_pos c12 hF
    refine ab_tab (tgt := 106) X dX9_worth_33 c12 (by decide) (by decide) rfl (by decide) ?_
    refine lv_dload_n X.1 X.2.1 dX9_worth_106 rfl (lv_at hl 6 rfl) ?_
    exact ab_dret X S hr hF dX9_worth_107
  have hF := ab_neg c12 hF
  by_cases c13 : x6 = 2
  · have hF := ab_pos c13 hF
    refine ab_tab (tgt := 108) X dX9_worth_33 c13 (by decide) (by decide) rfl (by decide) ?_
    refine ab_aload_n X dX9_worth_108 rfl (lv_at hl 3 rfl) ?_
    refine ab_getR X S hF fi_9_46 lf_X9_143 dX9_worth_109 (fun x14 hF => ?_)
    refine lv_iload X.1 X.2.1 dX9_worth_112 (lv_at hl 1 rfl) ?_
    refine ab_aldD X S hF dX9_worth_114 (fun x15 hF => ?_)
    refine ab_aload_n X dX9_worth_115 rfl (lv_at hl 3 rfl) ?_
    refine ab_getR X S hF fi_9_46 lf_X9_143 dX9_worth_116 (fun x16 hF => ?_)
    refine lv_iload X.1 X.2.1 dX9_worth_119 (lv_at hl 0 rfl) ?_
    refine ab_aldD X S hF dX9_worth_121 (fun x17 hF => ?_)
    obtain ⟨x18, h19, e20, hF⟩ := bnd_out hF
    refine ab_callSd X S (c_X9_plus l D cA sz e20) mi_X9_plus lm_X9_214 lt_yX9_plus (As := [.double x15, .double x17]) (rest := []) rfl ⟨by decide, by decide⟩ ⟨by decide, by decide⟩ hl.1 rfl (by simp [ab_cat, ab_cI, ab_cJ, ab_cD, ab_cF]) dX9_worth_122 (fun H1 locs1 S => ?_)
    exact ab_dret X S hr hF dX9_worth_125
  have hF := ab_neg c13 hF
  by_cases c21 : x6 = 3
  · have hF := ab_pos c21 hF
    refine ab_tab (tgt := 126) X dX9_worth_33 c21 (by decide) (by decide) rfl (by decide) ?_
    refine ab_aload_n X dX9_worth_126 rfl (lv_at hl 3 rfl) ?_
    refine ab_getR X S hF fi_9_46 lf_X9_143 dX9_worth_127 (fun x22 hF => ?_)
    refine lv_iload X.1 X.2.1 dX9_worth_130 (lv_at hl 1 rfl) ?_
    refine ab_aldD X S hF dX9_worth_132 (fun x23 hF => ?_)
    refine ab_aload_n X dX9_worth_133 rfl (lv_at hl 3 rfl) ?_
    refine ab_getR X S hF fi_9_46 lf_X9_143 dX9_worth_134 (fun x24 hF => ?_)
    refine lv_iload X.1 X.2.1 dX9_worth_137 (lv_at hl 0 rfl) ?_
    refine ab_aldD X S hF dX9_worth_139 (fun x25 hF => ?_)
    obtain ⟨x26, h27, e28, hF⟩ := bnd_out hF
    refine ab_callSd X S (c_X9_less l D cA sz e28) mi_X9_less lm_X9_204 lt_yX9_less (As := [.double x23, .double x25]) (rest := []) rfl ⟨by decide, by decide⟩ ⟨by decide, by decide⟩ hl.1 rfl (by simp [ab_cat, ab_cI, ab_cJ, ab_cD, ab_cF]) dX9_worth_140 (fun H1 locs1 S => ?_)
    exact ab_dret X S hr hF dX9_worth_143
  have hF := ab_neg c21 hF
  by_cases c29 : x6 = 4
  · have hF := ab_pos c29 hF
    refine ab_tab (tgt := 144) X dX9_worth_33 c29 (by decide) (by decide) rfl (by decide) ?_
    refine ab_aload_n X dX9_worth_144 rfl (lv_at hl 3 rfl) ?_
    refine ab_getR X S hF fi_9_46 lf_X9_143 dX9_worth_145 (fun x30 hF => ?_)
    refine lv_iload X.1 X.2.1 dX9_worth_148 (lv_at hl 1 rfl) ?_
    refine ab_aldD X S hF dX9_worth_150 (fun x31 hF => ?_)
    refine ab_aload_n X dX9_worth_151 rfl (lv_at hl 3 rfl) ?_
    refine ab_getR X S hF fi_9_46 lf_X9_143 dX9_worth_152 (fun x32 hF => ?_)
    refine lv_iload X.1 X.2.1 dX9_worth_155 (lv_at hl 0 rfl) ?_
    refine ab_aldD X S hF dX9_worth_157 (fun x33 hF => ?_)
    obtain ⟨x34, h35, e36, hF⟩ := bnd_out hF
    refine ab_callSd X S (c_X9_times l D cA sz e36) mi_X9_times lm_X9_211 lt_yX9_times (As := [.double x31, .double x33]) (rest := []) rfl ⟨by decide, by decide⟩ ⟨by decide, by decide⟩ hl.1 rfl (by simp [ab_cat, ab_cI, ab_cJ, ab_cD, ab_cF]) dX9_worth_158 (fun H1 locs1 S => ?_)
    exact ab_dret X S hr hF dX9_worth_161
  have hF := ab_neg c29 hF
  by_cases c37 : x6 = 5
  · have hF := ab_pos c37 hF
    refine ab_tab (tgt := 162) X dX9_worth_33 c37 (by decide) (by decide) rfl (by decide) ?_
    refine ab_aload_n X dX9_worth_162 rfl (lv_at hl 3 rfl) ?_
    refine ab_getR X S hF fi_9_46 lf_X9_143 dX9_worth_163 (fun x38 hF => ?_)
    refine lv_iload X.1 X.2.1 dX9_worth_166 (lv_at hl 1 rfl) ?_
    refine ab_aldD X S hF dX9_worth_168 (fun x39 hF => ?_)
    refine ab_aload_n X dX9_worth_169 rfl (lv_at hl 3 rfl) ?_
    refine ab_getR X S hF fi_9_46 lf_X9_143 dX9_worth_170 (fun x40 hF => ?_)
    refine lv_iload X.1 X.2.1 dX9_worth_173 (lv_at hl 0 rfl) ?_
    refine ab_aldD X S hF dX9_worth_175 (fun x41 hF => ?_)
    obtain ⟨x42, h43, e44, hF⟩ := bnd_out hF
    refine ab_callSd X S (c_X9_by l D cA sz e44) mi_X9_by lm_X9_208 lt_yX9_by (As := [.double x39, .double x41]) (rest := []) rfl ⟨by decide, by decide⟩ ⟨by decide, by decide⟩ hl.1 rfl (by simp [ab_cat, ab_cI, ab_cJ, ab_cD, ab_cF]) dX9_worth_176 (fun H1 locs1 S => ?_)
    exact ab_dret X S hr hF dX9_worth_179
  have hF := ab_neg c37 hF
  by_cases c45 : x6 = 6
  · have hF := ab_pos c45 hF
    refine ab_tab (tgt := 180) X dX9_worth_33 c45 (by decide) (by decide) rfl (by decide) ?_
    refine ab_aload_n X dX9_worth_180 rfl (lv_at hl 3 rfl) ?_
    refine ab_getR X S hF fi_9_46 lf_X9_143 dX9_worth_181 (fun x46 hF => ?_)
    refine lv_iload X.1 X.2.1 dX9_worth_184 (lv_at hl 1 rfl) ?_
    refine ab_aldD X S hF dX9_worth_186 (fun x47 hF => ?_)
    obtain ⟨x48, h49, e50, hF⟩ := bnd_out hF
    refine ab_callSd X S (c_X9_turned l D cA sz e50) mi_X9_turned lm_X9_217 lt_yX9_turned (As := [.double x47]) (rest := []) rfl ⟨by decide, by decide⟩ ⟨by decide, by decide⟩ hl.1 rfl (by simp [ab_cat, ab_cI, ab_cJ, ab_cD, ab_cF]) dX9_worth_187 (fun H1 locs1 S => ?_)
    exact ab_dret X S hr hF dX9_worth_190
  have hF := ab_neg c45 hF
  by_cases c51 : x6 = 7
  · have hF := ab_pos c51 hF
    refine ab_tab (tgt := 191) X dX9_worth_33 c51 (by decide) (by decide) rfl (by decide) ?_
    refine ab_aload_n X dX9_worth_191 rfl (lv_at hl 3 rfl) ?_
    refine ab_getR X S hF fi_9_46 lf_X9_143 dX9_worth_192 (fun x52 hF => ?_)
    refine lv_iload X.1 X.2.1 dX9_worth_195 (lv_at hl 1 rfl) ?_
    refine ab_aldD X S hF dX9_worth_197 (fun x53 hF => ?_)
    obtain ⟨x54, h55, e56, hF⟩ := bnd_out hF
    refine ab_callSd X S (c_X9_size l D cA sz e56) mi_X9_size lm_X9_221 lt_yX9_size (As := [.double x53]) (rest := []) rfl ⟨by decide, by decide⟩ ⟨by decide, by decide⟩ hl.1 rfl (by simp [ab_cat, ab_cI, ab_cJ, ab_cD, ab_cF]) dX9_worth_198 (fun H1 locs1 S => ?_)
    exact ab_dret X S hr hF dX9_worth_201
  have hF := ab_neg c51 hF
  by_cases c57 : x6 = 8
  · have hF := ab_pos c57 hF
    refine ab_tab (tgt := 202) X dX9_worth_33 c57 (by decide) (by decide) rfl (by decide) ?_
    refine ab_aload_n X dX9_worth_202 rfl (lv_at hl 3 rfl) ?_
    refine ab_getR X S hF fi_9_46 lf_X9_143 dX9_worth_203 (fun x58 hF => ?_)
    refine lv_iload X.1 X.2.1 dX9_worth_206 (lv_at hl 1 rfl) ?_
    refine ab_aldD X S hF dX9_worth_208 (fun x59 hF => ?_)
    refine ab_aload_n X dX9_worth_209 rfl (lv_at hl 3 rfl) ?_
    refine ab_getR X S hF fi_9_46 lf_X9_143 dX9_worth_210 (fun x60 hF => ?_)
    refine lv_iload X.1 X.2.1 dX9_worth_213 (lv_at hl 0 rfl) ?_
    refine ab_aldD X S hF dX9_worth_215 (fun x61 hF => ?_)
    obtain ⟨x62, h63, e64, hF⟩ := bnd_out hF
    refine ab_callSd X S (c_X9_least l D cA sz e64) mi_X9_least lm_X9_224 lt_yX9_least (As := [.double x59, .double x61]) (rest := []) rfl ⟨by decide, by decide⟩ ⟨by decide, by decide⟩ hl.1 rfl (by simp [ab_cat, ab_cI, ab_cJ, ab_cD, ab_cF]) dX9_worth_216 (fun H1 locs1 S => ?_)
    exact ab_dret X S hr hF dX9_worth_219
  have hF := ab_neg c57 hF
  by_cases c65 : x6 = 9
  · have hF := ab_pos c65 hF
    refine ab_tab (tgt := 220) X dX9_worth_33 c65 (by decide) (by decide) rfl (by decide) ?_
    refine ab_aload_n X dX9_worth_220 rfl (lv_at hl 3 rfl) ?_
    refine ab_getR X S hF fi_9_46 lf_X9_143 dX9_worth_221 (fun x66 hF => ?_)
    refine lv_iload X.1 X.2.1 dX9_worth_224 (lv_at hl 1 rfl) ?_
    refine ab_aldD X S hF dX9_worth_226 (fun x67 hF => ?_)
    refine ab_aload_n X dX9_worth_227 rfl (lv_at hl 3 rfl) ?_
    refine ab_getR X S hF fi_9_46 lf_X9_143 dX9_worth_228 (fun x68 hF => ?_)
    refine lv_iload X.1 X.2.1 dX9_worth_231 (lv_at hl 0 rfl) ?_
    refine ab_aldD X S hF dX9_worth_233 (fun x69 hF => ?_)
    obtain ⟨x70, h71, e72, hF⟩ := bnd_out hF
    refine ab_callSd X S (c_X9_greatest l D cA sz e72) mi_X9_greatest lm_X9_227 lt_yX9_greatest (As := [.double x67, .double x69]) (rest := []) rfl ⟨by decide, by decide⟩ ⟨by decide, by decide⟩ hl.1 rfl (by simp [ab_cat, ab_cI, ab_cJ, ab_cD, ab_cF]) dX9_worth_234 (fun H1 locs1 S => ?_)
    exact ab_dret X S hr hF dX9_worth_237
  have hF := ab_neg c65 hF
  by_cases c73 : x6 = 10
  · have hF := ab_pos c73 hF
    refine ab_tab (tgt := 238) X dX9_worth_33 c73 (by decide) (by decide) rfl (by decide) ?_
    refine ab_aload_n X dX9_worth_238 rfl (lv_at hl 3 rfl) ?_
    refine ab_getR X S hF fi_9_46 lf_X9_143 dX9_worth_239 (fun x74 hF => ?_)
    refine lv_iload X.1 X.2.1 dX9_worth_242 (lv_at hl 1 rfl) ?_
    refine ab_aldD X S hF dX9_worth_244 (fun x75 hF => ?_)
    refine lv_dconst0 X.1 X.2.1 dX9_worth_245 ?_
    refine lv_dcmp X.1 X.2.1 dX9_worth_246 ?_
    refine lv_if_ge (tgt := 260) X.1 X.2.1 dX9_worth_247 (by decide) (fun c76 => ?_) (fun c76 => ?_)
    · have hF := ab_pos c76 hF
      refine ab_aload_n X dX9_worth_260 rfl (lv_at hl 3 rfl) ?_
      refine ab_getR X S hF fi_9_46 lf_X9_143 dX9_worth_261 (fun x77 hF => ?_)
      refine ab_aload_n X dX9_worth_264 rfl (lv_at hl 3 rfl) ?_
      refine ab_getR X S hF fi_9_7 lf_X9_33 dX9_worth_265 (fun x78 hF => ?_)
      refine lv_iload X.1 X.2.1 dX9_worth_268 (lv_at hl 2 rfl) ?_
      refine ab_aldI X S hF dX9_worth_270 (fun x79 hF => ?_)
      refine ab_aldD X S hF dX9_worth_271 (fun x80 hF => ?_)
      exact w_X9_worth_272 X hr  S (lv_sub hl [] rfl) hF
    · have hF := ab_neg c76 hF
      refine ab_aload_n X dX9_worth_250 rfl (lv_at hl 3 rfl) ?_
      refine ab_getR X S hF fi_9_46 lf_X9_143 dX9_worth_251 (fun x81 hF => ?_)
      refine lv_iload X.1 X.2.1 dX9_worth_254 (lv_at hl 0 rfl) ?_
      refine ab_aldD X S hF dX9_worth_256 (fun x82 hF => ?_)
      refine lv_goto (tgt := 272) X.1 X.2.1 dX9_worth_257 (by decide) ?_
      exact w_X9_worth_272 X hr  S (lv_sub hl [] rfl) hF
  have hF := ab_neg c73 hF
  by_cases c83 : x6 = 11
  · have hF := ab_pos c83 hF
    refine ab_tab (tgt := 273) X dX9_worth_33 c83 (by decide) (by decide) rfl (by decide) ?_
    refine ab_aload_n X dX9_worth_273 rfl (lv_at hl 3 rfl) ?_
    refine ab_getR X S hF fi_9_46 lf_X9_143 dX9_worth_274 (fun x84 hF => ?_)
    refine lv_iload X.1 X.2.1 dX9_worth_277 (lv_at hl 1 rfl) ?_
    refine ab_aldD X S hF dX9_worth_279 (fun x85 hF => ?_)
    refine lv_iload X.1 X.2.1 dX9_worth_280 (lv_at hl 0 rfl) ?_
    obtain ⟨x86, h87, e88, hF⟩ := bnd_out hF
    refine ab_callSd X S (c_X9_power l D cA sz e88) mi_X9_power lm_X9_230 lt_yX9_power (As := [.double x85, .int x4]) (rest := []) rfl ⟨by decide, by decide⟩ ⟨by decide, by decide⟩ hl.1 rfl (by simp [ab_cat, ab_cI, ab_cJ, ab_cD, ab_cF]) dX9_worth_282 (fun H1 locs1 S => ?_)
    exact ab_dret X S hr hF dX9_worth_285
  have hF := ab_neg c83 hF
  by_cases c89 : x6 = 12
  · have hF := ab_pos c89 hF
    refine ab_tab (tgt := 286) X dX9_worth_33 c89 (by decide) (by decide) rfl (by decide) ?_
    refine ab_aload_n X dX9_worth_286 rfl (lv_at hl 3 rfl) ?_
    refine lv_iload X.1 X.2.1 dX9_worth_287 (lv_at hl 0 rfl) ?_
    refine ab_aload_n X dX9_worth_289 rfl (lv_at hl 3 rfl) ?_
    refine ab_getR X S hF fi_9_46 lf_X9_143 dX9_worth_290 (fun x90 hF => ?_)
    refine lv_iload X.1 X.2.1 dX9_worth_293 (lv_at hl 1 rfl) ?_
    refine ab_aldD X S hF dX9_worth_295 (fun x91 hF => ?_)
    obtain ⟨a95, e96, hF⟩ := bind_out hF
    obtain ⟨x92, h93, e94, hF⟩ := bnd_out hF
    refine ab_callVd X S e96 (c_X9_signalAt l D cA sz e94) rfl (by decide) mi_X9_signalAt lm_X9_234 li_yX9_signalAt ls_yX9_signalAt (As := [.int x4, .double x91]) (rest := []) rfl ⟨by decide, by decide⟩ ⟨by decide, by decide⟩ hl.1 rfl (by simp [ab_cat, ab_cI, ab_cJ, ab_cD, ab_cF]) dX9_worth_296 (fun H1 locs1 S => ?_)
    exact ab_dret X S hr hF dX9_worth_299
  have hF := ab_neg c89 hF
  cases hF
def f_X9_all_3  : Nat → Option Nat → Int32 → UInt64 → Option Nat → Int32 → Hp → Option (Unit × Hp)
  | 0, _, _, _, _, _, _ => none
  | n + 1, v0, v1, v2, v4, v5, h => (getR h v0 9 2).bind fun x1 =>
    (aldI h x1 11 v1).bind fun x2 =>
    if x2 ≤ v5 then
      some ((), h)
    else
      (getR h v0 9 46).bind fun x4 =>
      (ab_ck h v0 (9, 0)).bind fun a8 =>
      bnd (f_X9_worth a8 v1 v5 v2 v4 h) fun x5 h6 =>
      (astD h6 x4 v5 x5).bind fun h10 =>
      f_X9_all_3 n v0 v1 v2 v4 (v5 + 1) h10
set_option maxHeartbeats 4000000 in
set_option maxRecDepth 100000 in
theorem w_X9_all_3 {p : Program} {l : Launch} {e : Env} {s : State} {m : MethodId} {args : Array Value} {below : List Frame} {meth : Method} {c : Code} {D : va_G} {cA : Nat → ClassId} {sz : Nat}  {hh : Hp}  (X : ab_X p s m args meth c cX9_all 6 RX9 D cA sz) (hr : meth.sig.returnType = none)  (n : Nat) : ∀ (v0 : Option Nat) (v1 : Int32) (v2 : UInt64) (v4 : Option Nat) (v5 : Int32) (h : Hp) (H : Heap) (locs : List Loc) (ls : Array Slot), ab_H D cA sz h s H locs → lv_has ls 6 [(0, va_rf v0), (1, .int v1), (2, .double v2), (4, va_rf v4), (5, .int v5)] → f_X9_all_3 n v0 v1 v2 v4 v5 h = some ((), hh) → W p l e (ab_rm 4 0 0) s m args below meth c H locs 0 0 (MQ below (ab_Q D cA sz none hh) args s 0 0 (fun q => sz ≤ q)) (F0 m 3 ls []) := by
  induction n with
  | zero => intro v0 v1 v2 v4 v5 h H locs ls S hl hF; cases hF
  | succ n ih =>
    intro v0 v1 v2 v4 v5 h H locs ls S hl hF
    rw [f_X9_all_3] at hF
    refine lv_iload X.1 X.2.1 dX9_all_3 (lv_at hl 4 rfl) ?_
    refine ab_aload_n X dX9_all_5 rfl (lv_at hl 0 rfl) ?_
    refine ab_getR X S hF fi_9_2 lf_X9_18 dX9_all_6 (fun x1 hF => ?_)
    refine lv_iload_n X.1 X.2.1 dX9_all_9 rfl (lv_at hl 1 rfl) ?_
    refine ab_aldI X S hF dX9_all_10 (fun x2 hF => ?_)
    refine lv_icmp_ge (tgt := 37) X.1 X.2.1 dX9_all_11 (by decide) (fun c3 => ?_) (fun c3 => ?_)
    · have hF := ab_pos c3 hF
      exact ab_vret X S hr hF dX9_all_37
    · have hF := ab_neg c3 hF
      refine ab_aload_n X dX9_all_14 rfl (lv_at hl 0 rfl) ?_
      refine ab_getR X S hF fi_9_46 lf_X9_143 dX9_all_15 (fun x4 hF => ?_)
      refine lv_iload X.1 X.2.1 dX9_all_18 (lv_at hl 4 rfl) ?_
      refine ab_aload_n X dX9_all_20 rfl (lv_at hl 0 rfl) ?_
      refine lv_iload_n X.1 X.2.1 dX9_all_21 rfl (lv_at hl 1 rfl) ?_
      refine lv_iload X.1 X.2.1 dX9_all_22 (lv_at hl 4 rfl) ?_
      refine lv_dload_n X.1 X.2.1 dX9_all_24 rfl (lv_at hl 2 rfl) ?_
      refine ab_aload X dX9_all_25 (lv_at hl 3 rfl) ?_
      obtain ⟨a8, e9, hF⟩ := bind_out hF
      obtain ⟨x5, h6, e7, hF⟩ := bnd_out hF
      refine ab_callVd X S e9 (c_X9_worth l D cA sz e7) rfl (by decide) mi_X9_worth lm_X9_238 li_yX9_worth ls_yX9_worth (As := [.int v1, .int v5, .double v2, va_rf v4]) (rest := [.int v5, va_rf x4]) rfl ⟨by decide, by decide⟩ ⟨by decide, by decide⟩ hl.1 rfl (by simp [ab_cat, ab_cI, ab_cJ, ab_cD, ab_cF]) dX9_all_27 (fun H1 locs1 S => ?_)
      refine ab_astD X S hF dX9_all_30 (fun h10 H1 locs1 hF S => ?_)
      refine lv_iinc (v := v5 + 1) (lv' := [(5, .int (v5 + 1)), (0, va_rf v0), (1, .int v1), (2, .double v2), (4, va_rf v4)]) X.1 X.2.1 dX9_all_31 hl (k := 4) rfl (by rfl) (by decide) (by simp [ab_cat, ab_cI, ab_cJ, ab_cD, ab_cF]) (fun ls hl => ?_)
      refine lv_goto (tgt := 3) X.1 X.2.1 dX9_all_34 (by decide) ?_
      exact ih _ _ _ _ _ _ _ _ _ S (lv_sub hl [1, 2, 3, 4, 0] rfl) hF
def f_X9_all (this : Nat) (p0 : Int32) (p1 : UInt64) (p2 : Option Nat) (h : Hp) : Option (Unit × Hp) :=
  f_X9_all_3 fuelN (some this) p0 p1 p2 0 h
theorem mi_X9_all : ab_MI yX9_all cX9_all 6 none 3 := ⟨lc_yX9_all, lz_RX9, by decide, by decide, by decide +kernel⟩
set_option maxHeartbeats 4000000 in
set_option maxRecDepth 100000 in
theorem c_X9_all (l : Launch) (D : va_G) (cA : Nat → ClassId) (sz : Nat) {this : Nat} {p0 : Int32} {p1 : UInt64} {p2 : Option Nat} {h hh : Hp}  (hF : f_X9_all this p0 p1 p2 h = some ((), hh)) : ab_C l D cA sz yX9_all cX9_all 6 none 4 0 0 [.ref this, .int p0, .double p1, va_rf p2] h none hh := by
  refine Met.ofW (cc := cX9_all) (maxL := 6) (ret := none) (by decide) rfl ?_
  intro p e s m args below meth c s₁ B hml hv
  obtain ⟨rfl, hT, hR⟩ := hv
  have X : ab_X p s m _ meth c cX9_all 6 RX9 D cA sz := (ab_enter B hml hT hR).1
  have S := (ab_enter B hml hT hR).2
  have hr := B.returns
  obtain ⟨ls, hls, hl⟩ := ab_entry m [.ref this, .int p0, .double p1, va_rf p2] 6 (lv := [(0, .ref this), (1, .int p0), (2, .double p1), (4, va_rf p2)]) (by simp [lg_sl, ab_cat, ab_cI, ab_cJ, ab_cD, ab_cF, ab_cA]) (by simp [lv_args, ab_cat, ab_cI, ab_cJ, ab_cD, ab_cF, ab_cA])
  rw [hls]
  have hl : lv_has ls 6 [(0, va_rf (some this)), (1, .int p0), (2, .double p1), (4, va_rf p2)] := hl
  unfold f_X9_all at hF
  show W p l e (ab_rm 4 0 0) s m _ below meth c s.heap [] 0 0 _ _
  refine lv_iconst (v := 0) X.1 X.2.1 dX9_all_0 (by decide) ?_
  refine lv_istore (lv' := [(5, .int 0), (0, va_rf (some this)), (1, .int p0), (2, .double p1), (4, va_rf p2)]) X.1 X.2.1 dX9_all_1 hl (by decide) (by simp [ab_cat, ab_cI, ab_cJ, ab_cD, ab_cF]) (fun ls hl => ?_)
  exact w_X9_all_3 X hr  fuelN _ _ _ _ _ _ _ _ _ S (lv_sub hl [1, 2, 3, 4, 0] rfl) hF
def f_X9_rates_68 (k_11 : Option Nat → Int32 → Option Nat → Int32 → Hp → Option (Unit × Hp)) (v0 : Option Nat) (v1 : Int32) (v5 : Option Nat) (v6 : Int32) (u0 : Int32) (u1 : Option Nat) (h : Hp) : Option (Unit × Hp) :=
  (putZ h u1 9 60 u0).bind fun h1 =>
  k_11 v0 v1 v5 (v6 + 1) h1
set_option maxHeartbeats 4000000 in
set_option maxRecDepth 100000 in
theorem w_X9_rates_68 {p : Program} {l : Launch} {e : Env} {s : State} {m : MethodId} {args : Array Value} {below : List Frame} {meth : Method} {c : Code} {D : va_G} {cA : Nat → ClassId} {sz : Nat}  {hh : Hp} {k_11 : Option Nat → Int32 → Option Nat → Int32 → Hp → Option (Unit × Hp)} (X : ab_X p s m args meth c cX9_rates 7 RX9 D cA sz) (hr : meth.sig.returnType = none) (hk_11 : ∀ (v0 : Option Nat) (v1 : Int32) (v5 : Option Nat) (v6 : Int32) (h : Hp) (H : Heap) (locs : List Loc) (ls : Array Slot), ab_H D cA sz h s H locs → lv_has ls 7 [(0, va_rf v0), (1, .int v1), (5, va_rf v5), (6, .int v6)] → k_11 v0 v1 v5 v6 h = some ((), hh) → W p l e (ab_rm 5 0 0) s m args below meth c H locs 0 0 (MQ below (ab_Q D cA sz none hh) args s 0 0 (fun q => sz ≤ q)) (F0 m 11 ls [])) {H : Heap} {locs : List Loc} {ls : Array Slot} {v0 : Option Nat} {v1 : Int32} {v5 : Option Nat} {v6 : Int32} {u0 : Int32} {u1 : Option Nat} {h : Hp} (S : ab_H D cA sz h s H locs) (hl : lv_has ls 7 [(0, va_rf v0), (1, .int v1), (5, va_rf v5), (6, .int v6)]) (hF : f_X9_rates_68 k_11 v0 v1 v5 v6 u0 u1 h = some ((), hh)) : W p l e (ab_rm 5 0 0) s m args below meth c H locs 0 0 (MQ below (ab_Q D cA sz none hh) args s 0 0 (fun q => sz ≤ q)) (F0 m 68 ls [.int u0, va_rf u1]) := by
  unfold f_X9_rates_68 at hF
  refine ab_putZ X S hF fi_9_60 ci_9 (Or.inl rfl) rfl lf_X9_246 dX9_rates_68 (fun h1 H1 locs1 hF S => ?_)
  refine lv_iinc (v := v6 + 1) (lv' := [(6, .int (v6 + 1)), (0, va_rf v0), (1, .int v1), (5, va_rf v5)]) X.1 X.2.1 dX9_rates_71 hl (k := 3) rfl (by rfl) (by decide) (by simp [ab_cat, ab_cI, ab_cJ, ab_cD, ab_cF]) (fun ls hl => ?_)
  refine lv_goto (tgt := 11) X.1 X.2.1 dX9_rates_74 (by decide) ?_
  exact hk_11 _ _ _ _ _ _ _ _ S (lv_sub hl [1, 2, 3, 0] rfl) hF
def f_X9_rates_63 (k_11 : Option Nat → Int32 → Option Nat → Int32 → Hp → Option (Unit × Hp)) (v0 : Option Nat) (v1 : Int32) (v5 : Option Nat) (v6 : Int32) (u0 : Option Nat) (h : Hp) : Option (Unit × Hp) :=
  f_X9_rates_68 k_11 v0 v1 v5 v6 1 u0 h
set_option maxHeartbeats 4000000 in
set_option maxRecDepth 100000 in
theorem w_X9_rates_63 {p : Program} {l : Launch} {e : Env} {s : State} {m : MethodId} {args : Array Value} {below : List Frame} {meth : Method} {c : Code} {D : va_G} {cA : Nat → ClassId} {sz : Nat}  {hh : Hp} {k_11 : Option Nat → Int32 → Option Nat → Int32 → Hp → Option (Unit × Hp)} (X : ab_X p s m args meth c cX9_rates 7 RX9 D cA sz) (hr : meth.sig.returnType = none) (hk_11 : ∀ (v0 : Option Nat) (v1 : Int32) (v5 : Option Nat) (v6 : Int32) (h : Hp) (H : Heap) (locs : List Loc) (ls : Array Slot), ab_H D cA sz h s H locs → lv_has ls 7 [(0, va_rf v0), (1, .int v1), (5, va_rf v5), (6, .int v6)] → k_11 v0 v1 v5 v6 h = some ((), hh) → W p l e (ab_rm 5 0 0) s m args below meth c H locs 0 0 (MQ below (ab_Q D cA sz none hh) args s 0 0 (fun q => sz ≤ q)) (F0 m 11 ls [])) {H : Heap} {locs : List Loc} {ls : Array Slot} {v0 : Option Nat} {v1 : Int32} {v5 : Option Nat} {v6 : Int32} {u0 : Option Nat} {h : Hp} (S : ab_H D cA sz h s H locs) (hl : lv_has ls 7 [(0, va_rf v0), (1, .int v1), (5, va_rf v5), (6, .int v6)]) (hF : f_X9_rates_63 k_11 v0 v1 v5 v6 u0 h = some ((), hh)) : W p l e (ab_rm 5 0 0) s m args below meth c H locs 0 0 (MQ below (ab_Q D cA sz none hh) args s 0 0 (fun q => sz ≤ q)) (F0 m 63 ls [va_rf u0]) := by
  unfold f_X9_rates_63 at hF
  refine lv_iconst (v := 1) X.1 X.2.1 dX9_rates_63 (by decide) ?_
  refine lv_goto (tgt := 68) X.1 X.2.1 dX9_rates_64 (by decide) ?_
  exact w_X9_rates_68 X hr hk_11 S (lv_sub hl [0, 1, 2, 3] rfl) hF
def f_X9_rates_11  : Nat → Option Nat → Int32 → Option Nat → Int32 → Hp → Option (Unit × Hp)
  | 0, _, _, _, _, _ => none
  | n + 1, v0, v1, v5, v6, h => (getR h v0 9 0).bind fun x1 =>
    (aldI h x1 11 v1).bind fun x2 =>
    if x2 ≤ v6 then
      some ((), h)
    else
      (getR h v0 9 46).bind fun x4 =>
      (getR h v0 9 3).bind fun x5 =>
      (aldI h x5 11 ((6 * v1) + v6)).bind fun x6 =>
      (aldD h x4 x6).bind fun x7 =>
      (astD h v5 v6 x7).bind fun h8 =>
      (getI h8 v0 9 60).bind fun x9 =>
      if ¬ x9 = 0 then
        f_X9_rates_63 (f_X9_rates_11 n) v0 v1 v5 v6 v0 h8
      else
        (aldD h8 v5 v6).bind fun x11 =>
        bnd (f_X9_isFinite x11 h8) fun x12 h13 =>
        if ¬ x12 = 0 then
          f_X9_rates_68 (f_X9_rates_11 n) v0 v1 v5 v6 0 v0 h13
        else
          f_X9_rates_63 (f_X9_rates_11 n) v0 v1 v5 v6 v0 h13
set_option maxHeartbeats 4000000 in
set_option maxRecDepth 100000 in
theorem w_X9_rates_11 {p : Program} {l : Launch} {e : Env} {s : State} {m : MethodId} {args : Array Value} {below : List Frame} {meth : Method} {c : Code} {D : va_G} {cA : Nat → ClassId} {sz : Nat}  {hh : Hp}  (X : ab_X p s m args meth c cX9_rates 7 RX9 D cA sz) (hr : meth.sig.returnType = none)  (n : Nat) : ∀ (v0 : Option Nat) (v1 : Int32) (v5 : Option Nat) (v6 : Int32) (h : Hp) (H : Heap) (locs : List Loc) (ls : Array Slot), ab_H D cA sz h s H locs → lv_has ls 7 [(0, va_rf v0), (1, .int v1), (5, va_rf v5), (6, .int v6)] → f_X9_rates_11 n v0 v1 v5 v6 h = some ((), hh) → W p l e (ab_rm 5 0 0) s m args below meth c H locs 0 0 (MQ below (ab_Q D cA sz none hh) args s 0 0 (fun q => sz ≤ q)) (F0 m 11 ls []) := by
  induction n with
  | zero => intro v0 v1 v5 v6 h H locs ls S hl hF; cases hF
  | succ n ih =>
    intro v0 v1 v5 v6 h H locs ls S hl hF
    rw [f_X9_rates_11] at hF
    refine lv_iload X.1 X.2.1 dX9_rates_11 (lv_at hl 3 rfl) ?_
    refine ab_aload_n X dX9_rates_13 rfl (lv_at hl 0 rfl) ?_
    refine ab_getR X S hF fi_9_0 lf_X9_9 dX9_rates_14 (fun x1 hF => ?_)
    refine lv_iload_n X.1 X.2.1 dX9_rates_17 rfl (lv_at hl 1 rfl) ?_
    refine ab_aldI X S hF dX9_rates_18 (fun x2 hF => ?_)
    refine lv_icmp_ge (tgt := 77) X.1 X.2.1 dX9_rates_19 (by decide) (fun c3 => ?_) (fun c3 => ?_)
    · have hF := ab_pos c3 hF
      exact ab_vret X S hr hF dX9_rates_77
    · have hF := ab_neg c3 hF
      refine ab_aload X dX9_rates_22 (lv_at hl 2 rfl) ?_
      refine lv_iload X.1 X.2.1 dX9_rates_24 (lv_at hl 3 rfl) ?_
      refine ab_aload_n X dX9_rates_26 rfl (lv_at hl 0 rfl) ?_
      refine ab_getR X S hF fi_9_46 lf_X9_143 dX9_rates_27 (fun x4 hF => ?_)
      refine ab_aload_n X dX9_rates_30 rfl (lv_at hl 0 rfl) ?_
      refine ab_getR X S hF fi_9_3 lf_X9_21 dX9_rates_31 (fun x5 hF => ?_)
      refine lv_bipush (v := 6) X.1 X.2.1 dX9_rates_34 (by decide) ?_
      refine lv_iload_n X.1 X.2.1 dX9_rates_36 rfl (lv_at hl 1 rfl) ?_
      refine lv_imul X.1 X.2.1 dX9_rates_37 ?_
      refine lv_iload X.1 X.2.1 dX9_rates_38 (lv_at hl 3 rfl) ?_
      refine lv_iadd X.1 X.2.1 dX9_rates_40 ?_
      refine ab_aldI X S hF dX9_rates_41 (fun x6 hF => ?_)
      refine ab_aldD X S hF dX9_rates_42 (fun x7 hF => ?_)
      refine ab_astD X S hF dX9_rates_43 (fun h8 H1 locs1 hF S => ?_)
      refine ab_aload_n X dX9_rates_44 rfl (lv_at hl 0 rfl) ?_
      refine ab_aload_n X dX9_rates_45 rfl (lv_at hl 0 rfl) ?_
      refine ab_getI X S hF fi_9_60 lf_X9_246 dX9_rates_46 (fun x9 hF => ?_)
      refine lv_if_ne (tgt := 63) X.1 X.2.1 dX9_rates_49 (by decide) (fun c10 => ?_) (fun c10 => ?_)
      · have hF := ab_pos c10 hF
        exact w_X9_rates_63 X hr ih S (lv_sub hl [0, 1, 2, 3] rfl) hF
      · have hF := ab_neg (fun q => q c10) hF
        refine ab_aload X dX9_rates_52 (lv_at hl 2 rfl) ?_
        refine lv_iload X.1 X.2.1 dX9_rates_54 (lv_at hl 3 rfl) ?_
        refine ab_aldD X S hF dX9_rates_56 (fun x11 hF => ?_)
        obtain ⟨x12, h13, e14, hF⟩ := bnd_out hF
        refine ab_callSi X S (c_X9_isFinite l D cA sz e14) mi_X9_isFinite lm_X9_193 lt_yX9_isFinite (As := [.double x11]) (rest := [va_rf v0]) rfl ⟨by decide, by decide⟩ ⟨by decide, by decide⟩ hl.1 rfl (by simp [ab_cat, ab_cI, ab_cJ, ab_cD, ab_cF]) dX9_rates_57 (fun H1 locs1 S => ?_)
        refine lv_if_ne (tgt := 67) X.1 X.2.1 dX9_rates_60 (by decide) (fun c15 => ?_) (fun c15 => ?_)
        · have hF := ab_pos c15 hF
          refine lv_iconst (v := 0) X.1 X.2.1 dX9_rates_67 (by decide) ?_
          exact w_X9_rates_68 X hr ih S (lv_sub hl [0, 1, 2, 3] rfl) hF
        · have hF := ab_neg (fun q => q c15) hF
          exact w_X9_rates_63 X hr ih S (lv_sub hl [0, 1, 2, 3] rfl) hF
def f_X9_rates (this : Nat) (p0 : Int32) (p1 : UInt64) (p2 : Option Nat) (p3 : Option Nat) (h : Hp) : Option (Unit × Hp) :=
  (ab_ck h (some this) (9, 0)).bind fun a4 =>
  bnd (f_X9_all a4 p0 p1 p2 h) fun _ h2 =>
  f_X9_rates_11 fuelN (some this) p0 p3 0 h2
theorem mi_X9_rates : ab_MI yX9_rates cX9_rates 7 none 4 := ⟨lc_yX9_rates, lz_RX9, by decide, by decide, by decide +kernel⟩
set_option maxHeartbeats 4000000 in
set_option maxRecDepth 100000 in
theorem c_X9_rates (l : Launch) (D : va_G) (cA : Nat → ClassId) (sz : Nat) {this : Nat} {p0 : Int32} {p1 : UInt64} {p2 : Option Nat} {p3 : Option Nat} {h hh : Hp}  (hF : f_X9_rates this p0 p1 p2 p3 h = some ((), hh)) : ab_C l D cA sz yX9_rates cX9_rates 7 none 5 0 0 [.ref this, .int p0, .double p1, va_rf p2, va_rf p3] h none hh := by
  refine Met.ofW (cc := cX9_rates) (maxL := 7) (ret := none) (by decide) rfl ?_
  intro p e s m args below meth c s₁ B hml hv
  obtain ⟨rfl, hT, hR⟩ := hv
  have X : ab_X p s m _ meth c cX9_rates 7 RX9 D cA sz := (ab_enter B hml hT hR).1
  have S := (ab_enter B hml hT hR).2
  have hr := B.returns
  obtain ⟨ls, hls, hl⟩ := ab_entry m [.ref this, .int p0, .double p1, va_rf p2, va_rf p3] 7 (lv := [(0, .ref this), (1, .int p0), (2, .double p1), (4, va_rf p2), (5, va_rf p3)]) (by simp [lg_sl, ab_cat, ab_cI, ab_cJ, ab_cD, ab_cF, ab_cA]) (by simp [lv_args, ab_cat, ab_cI, ab_cJ, ab_cD, ab_cF, ab_cA])
  rw [hls]
  have hl : lv_has ls 7 [(0, va_rf (some this)), (1, .int p0), (2, .double p1), (4, va_rf p2), (5, va_rf p3)] := hl
  unfold f_X9_rates at hF
  show W p l e (ab_rm 5 0 0) s m _ below meth c s.heap [] 0 0 _ _
  refine ab_aload_n X dX9_rates_0 rfl (lv_at hl 0 rfl) ?_
  refine lv_iload_n X.1 X.2.1 dX9_rates_1 rfl (lv_at hl 1 rfl) ?_
  refine lv_dload_n X.1 X.2.1 dX9_rates_2 rfl (lv_at hl 2 rfl) ?_
  refine ab_aload X dX9_rates_3 (lv_at hl 3 rfl) ?_
  obtain ⟨a4, e5, hF⟩ := bind_out hF
  obtain ⟨x1, h2, e3, hF⟩ := bnd_out hF
  refine ab_callVv X S e5 (c_X9_all l D cA sz e3) rfl (by decide) mi_X9_all lm_X9_242 li_yX9_all ls_yX9_all (As := [.int p0, .double p1, va_rf p2]) (rest := []) rfl ⟨by decide, by decide⟩ ⟨by decide, by decide⟩ hl.1 rfl (by simp [ab_cat, ab_cI, ab_cJ, ab_cD, ab_cF]) dX9_rates_5 (fun H1 locs1 S => ?_)
  refine lv_iconst (v := 0) X.1 X.2.1 dX9_rates_8 (by decide) ?_
  refine lv_istore (lv' := [(6, .int 0), (0, va_rf (some this)), (1, .int p0), (2, .double p1), (4, va_rf p2), (5, va_rf p3)]) X.1 X.2.1 dX9_rates_9 hl (by decide) (by simp [ab_cat, ab_cI, ab_cJ, ab_cD, ab_cF]) (fun ls hl => ?_)
  exact w_X9_rates_11 X hr  fuelN _ _ _ _ _ _ _ _ S (lv_sub hl [1, 2, 5, 0] rfl) hF
