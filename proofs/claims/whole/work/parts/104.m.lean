def f_X9_in_15  (u0 : Int32) (h : Hp) : Option (Int32 × Hp) :=
  if u0 = 0 ∨ u0 = 1 then some (u0, h) else none
set_option maxHeartbeats 4000000 in
set_option maxRecDepth 100000 in
theorem w_X9_in_15 {p : Program} {l : Launch} {e : Env} {s : State} {m : MethodId} {args : Array Value} {below : List Frame} {meth : Method} {c : Code} {D : va_G} {cA : Nat → ClassId} {sz : Nat} {rr : Int32} {hh : Hp}  (X : ab_X p s m args meth c cX9_in 3 RX9 D cA sz) (hr : meth.sig.returnType = (some .boolean))  {H : Heap} {locs : List Loc} {ls : Array Slot} {u0 : Int32} {h : Hp} (S : ab_H D cA sz h s H locs) (hl : lv_has ls 3 []) (hF : f_X9_in_15 u0 h = some (rr, hh)) : W p l e (ab_rm 0 0 0) s m args below meth c H locs 0 0 (MQ below (ab_Q D cA sz (some (.int rr)) hh) args s 0 0 (fun q => sz ≤ q)) (F0 m 15 ls [.int u0]) := by
  unfold f_X9_in_15 at hF
  exact ab_zret X S hr hF dX9_in_15
def f_X9_in_14   (h : Hp) : Option (Int32 × Hp) :=
  f_X9_in_15 0 h
set_option maxHeartbeats 4000000 in
set_option maxRecDepth 100000 in
theorem w_X9_in_14 {p : Program} {l : Launch} {e : Env} {s : State} {m : MethodId} {args : Array Value} {below : List Frame} {meth : Method} {c : Code} {D : va_G} {cA : Nat → ClassId} {sz : Nat} {rr : Int32} {hh : Hp}  (X : ab_X p s m args meth c cX9_in 3 RX9 D cA sz) (hr : meth.sig.returnType = (some .boolean))  {H : Heap} {locs : List Loc} {ls : Array Slot}  {h : Hp} (S : ab_H D cA sz h s H locs) (hl : lv_has ls 3 []) (hF : f_X9_in_14  h = some (rr, hh)) : W p l e (ab_rm 0 0 0) s m args below meth c H locs 0 0 (MQ below (ab_Q D cA sz (some (.int rr)) hh) args s 0 0 (fun q => sz ≤ q)) (F0 m 14 ls []) := by
  unfold f_X9_in_14 at hF
  refine lv_iconst (v := 0) X.1 X.2.1 dX9_in_14 (by decide) ?_
  exact w_X9_in_15 X hr  S (lv_sub hl [] rfl) hF
def f_X9_in (p0 : Int32) (p1 : Int32) (p2 : Int32) (h : Hp) : Option (Int32 × Hp) :=
  if p0 < p1 then
    f_X9_in_14 h
  else
    if p2 < p0 then
      f_X9_in_14 h
    else
      f_X9_in_15 1 h
theorem mi_X9_in : ab_MI yX9_in cX9_in 3 (some .boolean) 3 := ⟨lc_yX9_in, lz_RX9, by decide, by decide, by decide +kernel⟩
set_option maxHeartbeats 4000000 in
set_option maxRecDepth 100000 in
theorem c_X9_in (l : Launch) (D : va_G) (cA : Nat → ClassId) (sz : Nat) {p0 : Int32} {p1 : Int32} {p2 : Int32} {h hh : Hp} {rr : Int32} (hF : f_X9_in p0 p1 p2 h = some (rr, hh)) : ab_C l D cA sz yX9_in cX9_in 3 (some .boolean) 0 0 0 [.int p0, .int p1, .int p2] h (some (.int rr)) hh := by
  refine Met.ofW (cc := cX9_in) (maxL := 3) (ret := (some .boolean)) (by decide) rfl ?_
  intro p e s m args below meth c s₁ B hml hv
  obtain ⟨rfl, hT, hR⟩ := hv
  have X : ab_X p s m _ meth c cX9_in 3 RX9 D cA sz := (ab_enter B hml hT hR).1
  have S := (ab_enter B hml hT hR).2
  have hr := B.returns
  obtain ⟨ls, hls, hl⟩ := ab_entry m [.int p0, .int p1, .int p2] 3 (lv := [(0, .int p0), (1, .int p1), (2, .int p2)]) (by simp [lg_sl, ab_cat, ab_cI, ab_cJ, ab_cD, ab_cF, ab_cA]) (by simp [lv_args, ab_cat, ab_cI, ab_cJ, ab_cD, ab_cF, ab_cA])
  rw [hls]
  have hl : lv_has ls 3 [(0, .int p0), (1, .int p1), (2, .int p2)] := hl
  unfold f_X9_in at hF
  show W p l e (ab_rm 0 0 0) s m _ below meth c s.heap [] 0 0 _ _
  refine lv_iload_n X.1 X.2.1 dX9_in_0 rfl (lv_at hl 0 rfl) ?_
  refine lv_iload_n X.1 X.2.1 dX9_in_1 rfl (lv_at hl 1 rfl) ?_
  refine lv_icmp_lt (tgt := 14) X.1 X.2.1 dX9_in_2 (by decide) (fun c1 => ?_) (fun c1 => ?_)
  · have hF := ab_pos c1 hF
    exact w_X9_in_14 X hr  S (lv_sub hl [] rfl) hF
  · have hF := ab_neg c1 hF
    refine lv_iload_n X.1 X.2.1 dX9_in_5 rfl (lv_at hl 0 rfl) ?_
    refine lv_iload_n X.1 X.2.1 dX9_in_6 rfl (lv_at hl 2 rfl) ?_
    refine lv_icmp_gt (tgt := 14) X.1 X.2.1 dX9_in_7 (by decide) (fun c2 => ?_) (fun c2 => ?_)
    · have hF := ab_pos c2 hF
      exact w_X9_in_14 X hr  S (lv_sub hl [] rfl) hF
    · have hF := ab_neg c2 hF
      refine lv_iconst (v := 1) X.1 X.2.1 dX9_in_10 (by decide) ?_
      refine lv_goto (tgt := 15) X.1 X.2.1 dX9_in_11 (by decide) ?_
      exact w_X9_in_15 X hr  S (lv_sub hl [] rfl) hF
def f_X9_number (p0 : Int64) (p1 : Int32) (h : Hp) : Option (UInt64 × Hp) :=
  (fop (FP.ddiv (FP.l2d p0) (FP.l2d (1 <<< (p1.toInt64 &&& 63))))).bind fun x1 =>
  some (x1, h)
theorem mi_X9_number : ab_MI yX9_number cX9_number 3 (some .double) 2 := ⟨lc_yX9_number, lz_RX9, by decide, by decide, by decide +kernel⟩
set_option maxHeartbeats 4000000 in
set_option maxRecDepth 100000 in
theorem c_X9_number (l : Launch) (D : va_G) (cA : Nat → ClassId) (sz : Nat) {p0 : Int64} {p1 : Int32} {h hh : Hp} {rr : UInt64} (hF : f_X9_number p0 p1 h = some (rr, hh)) : ab_C l D cA sz yX9_number cX9_number 3 (some .double) 0 0 0 [.long p0, .int p1] h (some (.double rr)) hh := by
  refine Met.ofW (cc := cX9_number) (maxL := 3) (ret := (some .double)) (by decide) rfl ?_
  intro p e s m args below meth c s₁ B hml hv
  obtain ⟨rfl, hT, hR⟩ := hv
  have X : ab_X p s m _ meth c cX9_number 3 RX9 D cA sz := (ab_enter B hml hT hR).1
  have S := (ab_enter B hml hT hR).2
  have hr := B.returns
  obtain ⟨ls, hls, hl⟩ := ab_entry m [.long p0, .int p1] 3 (lv := [(0, .long p0), (2, .int p1)]) (by simp [lg_sl, ab_cat, ab_cI, ab_cJ, ab_cD, ab_cF, ab_cA]) (by simp [lv_args, ab_cat, ab_cI, ab_cJ, ab_cD, ab_cF, ab_cA])
  rw [hls]
  have hl : lv_has ls 3 [(0, .long p0), (2, .int p1)] := hl
  unfold f_X9_number at hF
  show W p l e (ab_rm 0 0 0) s m _ below meth c s.heap [] 0 0 _ _
  refine lv_lload_n X.1 X.2.1 dX9_number_0 rfl (lv_at hl 0 rfl) ?_
  refine lv_l2d X.1 X.2.1 dX9_number_1 ?_
  refine lv_lconst (v := 1) X.1 X.2.1 dX9_number_2 (by decide) ?_
  refine lv_iload_n X.1 X.2.1 dX9_number_3 rfl (lv_at hl 1 rfl) ?_
  refine lv_lshl (v := 1 <<< (p1.toInt64 &&& 63)) X.1 X.2.1 dX9_number_4 rfl ?_
  refine lv_l2d X.1 X.2.1 dX9_number_5 ?_
  obtain ⟨x1, ev, ne, hF⟩ := ab_fopx hF
  refine lv_ddiv X.1 X.2.1 dX9_number_6 ne ?_
  rw [ev]
  exact ab_dret X S hr hF dX9_number_7
def f_X9_isFinite_21  (u0 : Int32) (h : Hp) : Option (Int32 × Hp) :=
  if u0 = 0 ∨ u0 = 1 then some (u0, h) else none
set_option maxHeartbeats 4000000 in
set_option maxRecDepth 100000 in
theorem w_X9_isFinite_21 {p : Program} {l : Launch} {e : Env} {s : State} {m : MethodId} {args : Array Value} {below : List Frame} {meth : Method} {c : Code} {D : va_G} {cA : Nat → ClassId} {sz : Nat} {rr : Int32} {hh : Hp}  (X : ab_X p s m args meth c cX9_isFinite 2 RX9 D cA sz) (hr : meth.sig.returnType = (some .boolean))  {H : Heap} {locs : List Loc} {ls : Array Slot} {u0 : Int32} {h : Hp} (S : ab_H D cA sz h s H locs) (hl : lv_has ls 2 []) (hF : f_X9_isFinite_21 u0 h = some (rr, hh)) : W p l e (ab_rm 0 0 0) s m args below meth c H locs 0 0 (MQ below (ab_Q D cA sz (some (.int rr)) hh) args s 0 0 (fun q => sz ≤ q)) (F0 m 21 ls [.int u0]) := by
  unfold f_X9_isFinite_21 at hF
  exact ab_zret X S hr hF dX9_isFinite_21
def f_X9_isFinite_20   (h : Hp) : Option (Int32 × Hp) :=
  f_X9_isFinite_21 0 h
set_option maxHeartbeats 4000000 in
set_option maxRecDepth 100000 in
theorem w_X9_isFinite_20 {p : Program} {l : Launch} {e : Env} {s : State} {m : MethodId} {args : Array Value} {below : List Frame} {meth : Method} {c : Code} {D : va_G} {cA : Nat → ClassId} {sz : Nat} {rr : Int32} {hh : Hp}  (X : ab_X p s m args meth c cX9_isFinite 2 RX9 D cA sz) (hr : meth.sig.returnType = (some .boolean))  {H : Heap} {locs : List Loc} {ls : Array Slot}  {h : Hp} (S : ab_H D cA sz h s H locs) (hl : lv_has ls 2 []) (hF : f_X9_isFinite_20  h = some (rr, hh)) : W p l e (ab_rm 0 0 0) s m args below meth c H locs 0 0 (MQ below (ab_Q D cA sz (some (.int rr)) hh) args s 0 0 (fun q => sz ≤ q)) (F0 m 20 ls []) := by
  unfold f_X9_isFinite_20 at hF
  refine lv_iconst (v := 0) X.1 X.2.1 dX9_isFinite_20 (by decide) ?_
  exact w_X9_isFinite_21 X hr  S (lv_sub hl [] rfl) hF
def f_X9_isFinite (p0 : UInt64) (h : Hp) : Option (Int32 × Hp) :=
  if (Op.cmpValue (FP.dcmp p0 18442240474082181119) CmpOp.l) < 0 then
    f_X9_isFinite_20 h
  else
    if 0 < (Op.cmpValue (FP.dcmp p0 9218868437227405311) CmpOp.g) then
      f_X9_isFinite_20 h
    else
      f_X9_isFinite_21 1 h
theorem mi_X9_isFinite : ab_MI yX9_isFinite cX9_isFinite 2 (some .boolean) 1 := ⟨lc_yX9_isFinite, lz_RX9, by decide, by decide, by decide +kernel⟩
set_option maxHeartbeats 4000000 in
set_option maxRecDepth 100000 in
theorem c_X9_isFinite (l : Launch) (D : va_G) (cA : Nat → ClassId) (sz : Nat) {p0 : UInt64} {h hh : Hp} {rr : Int32} (hF : f_X9_isFinite p0 h = some (rr, hh)) : ab_C l D cA sz yX9_isFinite cX9_isFinite 2 (some .boolean) 0 0 0 [.double p0] h (some (.int rr)) hh := by
  refine Met.ofW (cc := cX9_isFinite) (maxL := 2) (ret := (some .boolean)) (by decide) rfl ?_
  intro p e s m args below meth c s₁ B hml hv
  obtain ⟨rfl, hT, hR⟩ := hv
  have X : ab_X p s m _ meth c cX9_isFinite 2 RX9 D cA sz := (ab_enter B hml hT hR).1
  have S := (ab_enter B hml hT hR).2
  have hr := B.returns
  obtain ⟨ls, hls, hl⟩ := ab_entry m [.double p0] 2 (lv := [(0, .double p0)]) (by simp [lg_sl, ab_cat, ab_cI, ab_cJ, ab_cD, ab_cF, ab_cA]) (by simp [lv_args, ab_cat, ab_cI, ab_cJ, ab_cD, ab_cF, ab_cA])
  rw [hls]
  have hl : lv_has ls 2 [(0, .double p0)] := hl
  unfold f_X9_isFinite at hF
  show W p l e (ab_rm 0 0 0) s m _ below meth c s.heap [] 0 0 _ _
  refine lv_dload_n X.1 X.2.1 dX9_isFinite_0 rfl (lv_at hl 0 rfl) ?_
  refine lv_ldc2d (v := 18442240474082181119) X.1 X.2.1 X.2.2.2.1 (X.2.2.2.2.1 _ ld_X9_185) dX9_isFinite_1 ?_
  refine lv_dcmp X.1 X.2.1 dX9_isFinite_4 ?_
  refine lv_if_lt (tgt := 20) X.1 X.2.1 dX9_isFinite_5 (by decide) (fun c1 => ?_) (fun c1 => ?_)
  · have hF := ab_pos c1 hF
    exact w_X9_isFinite_20 X hr  S (lv_sub hl [] rfl) hF
  · have hF := ab_neg c1 hF
    refine lv_dload_n X.1 X.2.1 dX9_isFinite_8 rfl (lv_at hl 0 rfl) ?_
    refine lv_ldc2d (v := 9218868437227405311) X.1 X.2.1 X.2.2.2.1 (X.2.2.2.2.1 _ ld_X9_187) dX9_isFinite_9 ?_
    refine lv_dcmp X.1 X.2.1 dX9_isFinite_12 ?_
    refine lv_if_gt (tgt := 20) X.1 X.2.1 dX9_isFinite_13 (by decide) (fun c2 => ?_) (fun c2 => ?_)
    · have hF := ab_pos c2 hF
      exact w_X9_isFinite_20 X hr  S (lv_sub hl [] rfl) hF
    · have hF := ab_neg c2 hF
      refine lv_iconst (v := 1) X.1 X.2.1 dX9_isFinite_16 (by decide) ?_
      refine lv_goto (tgt := 21) X.1 X.2.1 dX9_isFinite_17 (by decide) ?_
      exact w_X9_isFinite_21 X hr  S (lv_sub hl [] rfl) hF
def f_X9_isNumber_11  (u0 : Int32) (h : Hp) : Option (Int32 × Hp) :=
  if u0 = 0 ∨ u0 = 1 then some (u0, h) else none
set_option maxHeartbeats 4000000 in
set_option maxRecDepth 100000 in
theorem w_X9_isNumber_11 {p : Program} {l : Launch} {e : Env} {s : State} {m : MethodId} {args : Array Value} {below : List Frame} {meth : Method} {c : Code} {D : va_G} {cA : Nat → ClassId} {sz : Nat} {rr : Int32} {hh : Hp}  (X : ab_X p s m args meth c cX9_isNumber 2 RX9 D cA sz) (hr : meth.sig.returnType = (some .boolean))  {H : Heap} {locs : List Loc} {ls : Array Slot} {u0 : Int32} {h : Hp} (S : ab_H D cA sz h s H locs) (hl : lv_has ls 2 []) (hF : f_X9_isNumber_11 u0 h = some (rr, hh)) : W p l e (ab_rm 0 0 0) s m args below meth c H locs 0 0 (MQ below (ab_Q D cA sz (some (.int rr)) hh) args s 0 0 (fun q => sz ≤ q)) (F0 m 11 ls [.int u0]) := by
  unfold f_X9_isNumber_11 at hF
  exact ab_zret X S hr hF dX9_isNumber_11
def f_X9_isNumber (p0 : UInt64) (h : Hp) : Option (Int32 × Hp) :=
  if ¬ (Op.cmpValue (FP.dcmp p0 p0) CmpOp.l) = 0 then
    f_X9_isNumber_11 0 h
  else
    f_X9_isNumber_11 1 h
theorem mi_X9_isNumber : ab_MI yX9_isNumber cX9_isNumber 2 (some .boolean) 1 := ⟨lc_yX9_isNumber, lz_RX9, by decide, by decide, by decide +kernel⟩
set_option maxHeartbeats 4000000 in
set_option maxRecDepth 100000 in
theorem c_X9_isNumber (l : Launch) (D : va_G) (cA : Nat → ClassId) (sz : Nat) {p0 : UInt64} {h hh : Hp} {rr : Int32} (hF : f_X9_isNumber p0 h = some (rr, hh)) : ab_C l D cA sz yX9_isNumber cX9_isNumber 2 (some .boolean) 0 0 0 [.double p0] h (some (.int rr)) hh := by
  refine Met.ofW (cc := cX9_isNumber) (maxL := 2) (ret := (some .boolean)) (by decide) rfl ?_
  intro p e s m args below meth c s₁ B hml hv
  obtain ⟨rfl, hT, hR⟩ := hv
  have X : ab_X p s m _ meth c cX9_isNumber 2 RX9 D cA sz := (ab_enter B hml hT hR).1
  have S := (ab_enter B hml hT hR).2
  have hr := B.returns
  obtain ⟨ls, hls, hl⟩ := ab_entry m [.double p0] 2 (lv := [(0, .double p0)]) (by simp [lg_sl, ab_cat, ab_cI, ab_cJ, ab_cD, ab_cF, ab_cA]) (by simp [lv_args, ab_cat, ab_cI, ab_cJ, ab_cD, ab_cF, ab_cA])
  rw [hls]
  have hl : lv_has ls 2 [(0, .double p0)] := hl
  unfold f_X9_isNumber at hF
  show W p l e (ab_rm 0 0 0) s m _ below meth c s.heap [] 0 0 _ _
  refine lv_dload_n X.1 X.2.1 dX9_isNumber_0 rfl (lv_at hl 0 rfl) ?_
  refine lv_dload_n X.1 X.2.1 dX9_isNumber_1 rfl (lv_at hl 0 rfl) ?_
  refine lv_dcmp X.1 X.2.1 dX9_isNumber_2 ?_
  refine lv_if_ne (tgt := 10) X.1 X.2.1 dX9_isNumber_3 (by decide) (fun c1 => ?_) (fun c1 => ?_)
  · have hF := ab_pos c1 hF
    refine lv_iconst (v := 0) X.1 X.2.1 dX9_isNumber_10 (by decide) ?_
    exact w_X9_isNumber_11 X hr  S (lv_sub hl [] rfl) hF
  · have hF := ab_neg (fun q => q c1) hF
    refine lv_iconst (v := 1) X.1 X.2.1 dX9_isNumber_6 (by decide) ?_
    refine lv_goto (tgt := 11) X.1 X.2.1 dX9_isNumber_7 (by decide) ?_
    exact w_X9_isNumber_11 X hr  S (lv_sub hl [] rfl) hF
def f_X9_plus_55  (u0 : UInt64) (h : Hp) : Option (UInt64 × Hp) :=
  some (u0, h)
set_option maxHeartbeats 4000000 in
set_option maxRecDepth 100000 in
theorem w_X9_plus_55 {p : Program} {l : Launch} {e : Env} {s : State} {m : MethodId} {args : Array Value} {below : List Frame} {meth : Method} {c : Code} {D : va_G} {cA : Nat → ClassId} {sz : Nat} {rr : UInt64} {hh : Hp}  (X : ab_X p s m args meth c cX9_plus 5 RX9 D cA sz) (hr : meth.sig.returnType = (some .double))  {H : Heap} {locs : List Loc} {ls : Array Slot} {u0 : UInt64} {h : Hp} (S : ab_H D cA sz h s H locs) (hl : lv_has ls 5 []) (hF : f_X9_plus_55 u0 h = some (rr, hh)) : W p l e (ab_rm 1 0 0) s m args below meth c H locs 0 0 (MQ below (ab_Q D cA sz (some (.double rr)) hh) args s 0 0 (fun q => sz ≤ q)) (F0 m 55 ls [.double u0]) := by
  unfold f_X9_plus_55 at hF
  exact ab_dret X S hr hF dX9_plus_55
def f_X9_plus_39  (v0 : UInt64) (v2 : UInt64) (u0 : Int32) (h : Hp) : Option (UInt64 × Hp) :=
  if u0 = 0 then
    (fop (FP.dadd v0 v2)).bind fun x2 =>
    f_X9_plus_55 x2 h
  else
    f_X9_plus_55 9221120237041090560 h
set_option maxHeartbeats 4000000 in
set_option maxRecDepth 100000 in
theorem w_X9_plus_39 {p : Program} {l : Launch} {e : Env} {s : State} {m : MethodId} {args : Array Value} {below : List Frame} {meth : Method} {c : Code} {D : va_G} {cA : Nat → ClassId} {sz : Nat} {rr : UInt64} {hh : Hp}  (X : ab_X p s m args meth c cX9_plus 5 RX9 D cA sz) (hr : meth.sig.returnType = (some .double))  {H : Heap} {locs : List Loc} {ls : Array Slot} {v0 : UInt64} {v2 : UInt64} {u0 : Int32} {h : Hp} (S : ab_H D cA sz h s H locs) (hl : lv_has ls 5 [(0, .double v0), (2, .double v2)]) (hF : f_X9_plus_39 v0 v2 u0 h = some (rr, hh)) : W p l e (ab_rm 1 0 0) s m args below meth c H locs 0 0 (MQ below (ab_Q D cA sz (some (.double rr)) hh) args s 0 0 (fun q => sz ≤ q)) (F0 m 39 ls [.int u0]) := by
  unfold f_X9_plus_39 at hF
  refine lv_istore (lv' := [(4, .int u0), (0, .double v0), (2, .double v2)]) X.1 X.2.1 dX9_plus_39 hl (by decide) (by simp [ab_cat, ab_cI, ab_cJ, ab_cD, ab_cF]) (fun ls hl => ?_)
  refine lv_iload X.1 X.2.1 dX9_plus_41 (lv_at hl 0 rfl) ?_
  refine lv_if_eq (tgt := 52) X.1 X.2.1 dX9_plus_43 (by decide) (fun c1 => ?_) (fun c1 => ?_)
  · have hF := ab_pos c1 hF
    refine lv_dload_n X.1 X.2.1 dX9_plus_52 rfl (lv_at hl 1 rfl) ?_
    refine lv_dload_n X.1 X.2.1 dX9_plus_53 rfl (lv_at hl 2 rfl) ?_
    obtain ⟨x2, ev, ne, hF⟩ := ab_fopx hF
    refine lv_dadd X.1 X.2.1 dX9_plus_54 ne ?_
    rw [ev]
    exact w_X9_plus_55 X hr  S (lv_sub hl [] rfl) hF
  · have hF := ab_neg c1 hF
    refine lv_ldc2d (v := 9221120237041090560) X.1 X.2.1 X.2.2.2.1 (X.2.2.2.2.1 _ ld_X9_196) dX9_plus_46 ?_
    refine lv_goto (tgt := 55) X.1 X.2.1 dX9_plus_49 (by decide) ?_
    exact w_X9_plus_55 X hr  S (lv_sub hl [] rfl) hF
def f_X9_plus_34  (v0 : UInt64) (v2 : UInt64) (h : Hp) : Option (UInt64 × Hp) :=
  f_X9_plus_39 v0 v2 1 h
set_option maxHeartbeats 4000000 in
set_option maxRecDepth 100000 in
theorem w_X9_plus_34 {p : Program} {l : Launch} {e : Env} {s : State} {m : MethodId} {args : Array Value} {below : List Frame} {meth : Method} {c : Code} {D : va_G} {cA : Nat → ClassId} {sz : Nat} {rr : UInt64} {hh : Hp}  (X : ab_X p s m args meth c cX9_plus 5 RX9 D cA sz) (hr : meth.sig.returnType = (some .double))  {H : Heap} {locs : List Loc} {ls : Array Slot} {v0 : UInt64} {v2 : UInt64} {h : Hp} (S : ab_H D cA sz h s H locs) (hl : lv_has ls 5 [(0, .double v0), (2, .double v2)]) (hF : f_X9_plus_34 v0 v2 h = some (rr, hh)) : W p l e (ab_rm 1 0 0) s m args below meth c H locs 0 0 (MQ below (ab_Q D cA sz (some (.double rr)) hh) args s 0 0 (fun q => sz ≤ q)) (F0 m 34 ls []) := by
  unfold f_X9_plus_34 at hF
  refine lv_iconst (v := 1) X.1 X.2.1 dX9_plus_34 (by decide) ?_
  refine lv_goto (tgt := 39) X.1 X.2.1 dX9_plus_35 (by decide) ?_
  exact w_X9_plus_39 X hr  S (lv_sub hl [0, 1] rfl) hF
def f_X9_plus_38  (v0 : UInt64) (v2 : UInt64) (h : Hp) : Option (UInt64 × Hp) :=
  f_X9_plus_39 v0 v2 0 h
set_option maxHeartbeats 4000000 in
set_option maxRecDepth 100000 in
theorem w_X9_plus_38 {p : Program} {l : Launch} {e : Env} {s : State} {m : MethodId} {args : Array Value} {below : List Frame} {meth : Method} {c : Code} {D : va_G} {cA : Nat → ClassId} {sz : Nat} {rr : UInt64} {hh : Hp}  (X : ab_X p s m args meth c cX9_plus 5 RX9 D cA sz) (hr : meth.sig.returnType = (some .double))  {H : Heap} {locs : List Loc} {ls : Array Slot} {v0 : UInt64} {v2 : UInt64} {h : Hp} (S : ab_H D cA sz h s H locs) (hl : lv_has ls 5 [(0, .double v0), (2, .double v2)]) (hF : f_X9_plus_38 v0 v2 h = some (rr, hh)) : W p l e (ab_rm 1 0 0) s m args below meth c H locs 0 0 (MQ below (ab_Q D cA sz (some (.double rr)) hh) args s 0 0 (fun q => sz ≤ q)) (F0 m 38 ls []) := by
  unfold f_X9_plus_38 at hF
  refine lv_iconst (v := 0) X.1 X.2.1 dX9_plus_38 (by decide) ?_
  exact w_X9_plus_39 X hr  S (lv_sub hl [0, 1] rfl) hF
def f_X9_plus (p0 : UInt64) (p1 : UInt64) (h : Hp) : Option (UInt64 × Hp) :=
  bnd (f_X9_isNumber p0 h) fun x1 h2 =>
  if x1 = 0 then
    f_X9_plus_34 p0 p1 h2
  else
    bnd (f_X9_isNumber p1 h2) fun x5 h6 =>
    if x5 = 0 then
      f_X9_plus_34 p0 p1 h6
    else
      bnd (f_X9_isFinite p0 h6) fun x9 h10 =>
      if ¬ x9 = 0 then
        f_X9_plus_38 p0 p1 h10
      else
        bnd (f_X9_isFinite p1 h10) fun x13 h14 =>
        if ¬ x13 = 0 then
          f_X9_plus_38 p0 p1 h14
        else
          if (Op.cmpValue (FP.dcmp p0 p1) CmpOp.l) = 0 then
            f_X9_plus_38 p0 p1 h14
          else
            f_X9_plus_34 p0 p1 h14
theorem mi_X9_plus : ab_MI yX9_plus cX9_plus 5 (some .double) 2 := ⟨lc_yX9_plus, lz_RX9, by decide, by decide, by decide +kernel⟩
set_option maxHeartbeats 4000000 in
set_option maxRecDepth 100000 in
theorem c_X9_plus (l : Launch) (D : va_G) (cA : Nat → ClassId) (sz : Nat) {p0 : UInt64} {p1 : UInt64} {h hh : Hp} {rr : UInt64} (hF : f_X9_plus p0 p1 h = some (rr, hh)) : ab_C l D cA sz yX9_plus cX9_plus 5 (some .double) 1 0 0 [.double p0, .double p1] h (some (.double rr)) hh := by
  refine Met.ofW (cc := cX9_plus) (maxL := 5) (ret := (some .double)) (by decide) rfl ?_
  intro p e s m args below meth c s₁ B hml hv
  obtain ⟨rfl, hT, hR⟩ := hv
  have X : ab_X p s m _ meth c cX9_plus 5 RX9 D cA sz := (ab_enter B hml hT hR).1
  have S := (ab_enter B hml hT hR).2
  have hr := B.returns
  obtain ⟨ls, hls, hl⟩ := ab_entry m [.double p0, .double p1] 5 (lv := [(0, .double p0), (2, .double p1)]) (by simp [lg_sl, ab_cat, ab_cI, ab_cJ, ab_cD, ab_cF, ab_cA]) (by simp [lv_args, ab_cat, ab_cI, ab_cJ, ab_cD, ab_cF, ab_cA])
  rw [hls]
  have hl : lv_has ls 5 [(0, .double p0), (2, .double p1)] := hl
  unfold f_X9_plus at hF
  show W p l e (ab_rm 1 0 0) s m _ below meth c s.heap [] 0 0 _ _
  refine lv_dload_n X.1 X.2.1 dX9_plus_0 rfl (lv_at hl 0 rfl) ?_
  obtain ⟨x1, h2, e3, hF⟩ := bnd_out hF
  refine ab_callSi X S (c_X9_isNumber l D cA sz e3) mi_X9_isNumber lm_X9_189 lt_yX9_isNumber (As := [.double p0]) (rest := []) rfl ⟨by decide, by decide⟩ ⟨(by decide), (by decide)⟩ hl.1 rfl (by simp [ab_cat, ab_cI, ab_cJ, ab_cD, ab_cF]) dX9_plus_1 (fun H1 locs1 S => ?_)
  refine lv_if_eq (tgt := 34) X.1 X.2.1 dX9_plus_4 (by decide) (fun c4 => ?_) (fun c4 => ?_)
  · have hF := ab_pos c4 hF
    exact w_X9_plus_34 X hr  S (lv_sub hl [0, 1] rfl) hF
  · have hF := ab_neg c4 hF
    refine lv_dload_n X.1 X.2.1 dX9_plus_7 rfl (lv_at hl 1 rfl) ?_
    obtain ⟨x5, h6, e7, hF⟩ := bnd_out hF
    refine ab_callSi X S (c_X9_isNumber l D cA sz e7) mi_X9_isNumber lm_X9_189 lt_yX9_isNumber (As := [.double p1]) (rest := []) rfl ⟨by decide, by decide⟩ ⟨(by decide), (by decide)⟩ hl.1 rfl (by simp [ab_cat, ab_cI, ab_cJ, ab_cD, ab_cF]) dX9_plus_8 (fun H1 locs1 S => ?_)
    refine lv_if_eq (tgt := 34) X.1 X.2.1 dX9_plus_11 (by decide) (fun c8 => ?_) (fun c8 => ?_)
    · have hF := ab_pos c8 hF
      exact w_X9_plus_34 X hr  S (lv_sub hl [0, 1] rfl) hF
    · have hF := ab_neg c8 hF
      refine lv_dload_n X.1 X.2.1 dX9_plus_14 rfl (lv_at hl 0 rfl) ?_
      obtain ⟨x9, h10, e11, hF⟩ := bnd_out hF
      refine ab_callSi X S (c_X9_isFinite l D cA sz e11) mi_X9_isFinite lm_X9_193 lt_yX9_isFinite (As := [.double p0]) (rest := []) rfl ⟨by decide, by decide⟩ ⟨(by decide), (by decide)⟩ hl.1 rfl (by simp [ab_cat, ab_cI, ab_cJ, ab_cD, ab_cF]) dX9_plus_15 (fun H1 locs1 S => ?_)
      refine lv_if_ne (tgt := 38) X.1 X.2.1 dX9_plus_18 (by decide) (fun c12 => ?_) (fun c12 => ?_)
      · have hF := ab_pos c12 hF
        exact w_X9_plus_38 X hr  S (lv_sub hl [0, 1] rfl) hF
      · have hF := ab_neg (fun q => q c12) hF
        refine lv_dload_n X.1 X.2.1 dX9_plus_21 rfl (lv_at hl 1 rfl) ?_
        obtain ⟨x13, h14, e15, hF⟩ := bnd_out hF
        refine ab_callSi X S (c_X9_isFinite l D cA sz e15) mi_X9_isFinite lm_X9_193 lt_yX9_isFinite (As := [.double p1]) (rest := []) rfl ⟨by decide, by decide⟩ ⟨(by decide), (by decide)⟩ hl.1 rfl (by simp [ab_cat, ab_cI, ab_cJ, ab_cD, ab_cF]) dX9_plus_22 (fun H1 locs1 S => ?_)
        refine lv_if_ne (tgt := 38) X.1 X.2.1 dX9_plus_25 (by decide) (fun c16 => ?_) (fun c16 => ?_)
        · have hF := ab_pos c16 hF
          exact w_X9_plus_38 X hr  S (lv_sub hl [0, 1] rfl) hF
        · have hF := ab_neg (fun q => q c16) hF
          refine lv_dload_n X.1 X.2.1 dX9_plus_28 rfl (lv_at hl 0 rfl) ?_
          refine lv_dload_n X.1 X.2.1 dX9_plus_29 rfl (lv_at hl 1 rfl) ?_
          refine lv_dcmp X.1 X.2.1 dX9_plus_30 ?_
          refine lv_if_eq (tgt := 38) X.1 X.2.1 dX9_plus_31 (by decide) (fun c17 => ?_) (fun c17 => ?_)
          · have hF := ab_pos c17 hF
            exact w_X9_plus_38 X hr  S (lv_sub hl [0, 1] rfl) hF
          · have hF := ab_neg c17 hF
            exact w_X9_plus_34 X hr  S (lv_sub hl [0, 1] rfl) hF
def f_X9_less_48  (u0 : UInt64) (h : Hp) : Option (UInt64 × Hp) :=
  some (u0, h)
set_option maxHeartbeats 4000000 in
set_option maxRecDepth 100000 in
theorem w_X9_less_48 {p : Program} {l : Launch} {e : Env} {s : State} {m : MethodId} {args : Array Value} {below : List Frame} {meth : Method} {c : Code} {D : va_G} {cA : Nat → ClassId} {sz : Nat} {rr : UInt64} {hh : Hp}  (X : ab_X p s m args meth c cX9_less 5 RX9 D cA sz) (hr : meth.sig.returnType = (some .double))  {H : Heap} {locs : List Loc} {ls : Array Slot} {u0 : UInt64} {h : Hp} (S : ab_H D cA sz h s H locs) (hl : lv_has ls 5 []) (hF : f_X9_less_48 u0 h = some (rr, hh)) : W p l e (ab_rm 1 0 0) s m args below meth c H locs 0 0 (MQ below (ab_Q D cA sz (some (.double rr)) hh) args s 0 0 (fun q => sz ≤ q)) (F0 m 48 ls [.double u0]) := by
  unfold f_X9_less_48 at hF
  exact ab_dret X S hr hF dX9_less_48
def f_X9_less_32  (v0 : UInt64) (v2 : UInt64) (u0 : Int32) (h : Hp) : Option (UInt64 × Hp) :=
  if u0 = 0 then
    (fop (FP.dsub v0 v2)).bind fun x2 =>
    f_X9_less_48 x2 h
  else
    f_X9_less_48 9221120237041090560 h
set_option maxHeartbeats 4000000 in
set_option maxRecDepth 100000 in
theorem w_X9_less_32 {p : Program} {l : Launch} {e : Env} {s : State} {m : MethodId} {args : Array Value} {below : List Frame} {meth : Method} {c : Code} {D : va_G} {cA : Nat → ClassId} {sz : Nat} {rr : UInt64} {hh : Hp}  (X : ab_X p s m args meth c cX9_less 5 RX9 D cA sz) (hr : meth.sig.returnType = (some .double))  {H : Heap} {locs : List Loc} {ls : Array Slot} {v0 : UInt64} {v2 : UInt64} {u0 : Int32} {h : Hp} (S : ab_H D cA sz h s H locs) (hl : lv_has ls 5 [(0, .double v0), (2, .double v2)]) (hF : f_X9_less_32 v0 v2 u0 h = some (rr, hh)) : W p l e (ab_rm 1 0 0) s m args below meth c H locs 0 0 (MQ below (ab_Q D cA sz (some (.double rr)) hh) args s 0 0 (fun q => sz ≤ q)) (F0 m 32 ls [.int u0]) := by
  unfold f_X9_less_32 at hF
  refine lv_istore (lv' := [(4, .int u0), (0, .double v0), (2, .double v2)]) X.1 X.2.1 dX9_less_32 hl (by decide) (by simp [ab_cat, ab_cI, ab_cJ, ab_cD, ab_cF]) (fun ls hl => ?_)
  refine lv_iload X.1 X.2.1 dX9_less_34 (lv_at hl 0 rfl) ?_
  refine lv_if_eq (tgt := 45) X.1 X.2.1 dX9_less_36 (by decide) (fun c1 => ?_) (fun c1 => ?_)
  · have hF := ab_pos c1 hF
    refine lv_dload_n X.1 X.2.1 dX9_less_45 rfl (lv_at hl 1 rfl) ?_
    refine lv_dload_n X.1 X.2.1 dX9_less_46 rfl (lv_at hl 2 rfl) ?_
    obtain ⟨x2, ev, ne, hF⟩ := ab_fopx hF
    refine lv_dsub X.1 X.2.1 dX9_less_47 ne ?_
    rw [ev]
    exact w_X9_less_48 X hr  S (lv_sub hl [] rfl) hF
  · have hF := ab_neg c1 hF
    refine lv_ldc2d (v := 9221120237041090560) X.1 X.2.1 X.2.2.2.1 (X.2.2.2.2.1 _ ld_X9_196) dX9_less_39 ?_
    refine lv_goto (tgt := 48) X.1 X.2.1 dX9_less_42 (by decide) ?_
    exact w_X9_less_48 X hr  S (lv_sub hl [] rfl) hF
def f_X9_less_27  (v0 : UInt64) (v2 : UInt64) (h : Hp) : Option (UInt64 × Hp) :=
  f_X9_less_32 v0 v2 1 h
set_option maxHeartbeats 4000000 in
set_option maxRecDepth 100000 in
theorem w_X9_less_27 {p : Program} {l : Launch} {e : Env} {s : State} {m : MethodId} {args : Array Value} {below : List Frame} {meth : Method} {c : Code} {D : va_G} {cA : Nat → ClassId} {sz : Nat} {rr : UInt64} {hh : Hp}  (X : ab_X p s m args meth c cX9_less 5 RX9 D cA sz) (hr : meth.sig.returnType = (some .double))  {H : Heap} {locs : List Loc} {ls : Array Slot} {v0 : UInt64} {v2 : UInt64} {h : Hp} (S : ab_H D cA sz h s H locs) (hl : lv_has ls 5 [(0, .double v0), (2, .double v2)]) (hF : f_X9_less_27 v0 v2 h = some (rr, hh)) : W p l e (ab_rm 1 0 0) s m args below meth c H locs 0 0 (MQ below (ab_Q D cA sz (some (.double rr)) hh) args s 0 0 (fun q => sz ≤ q)) (F0 m 27 ls []) := by
  unfold f_X9_less_27 at hF
  refine lv_iconst (v := 1) X.1 X.2.1 dX9_less_27 (by decide) ?_
  refine lv_goto (tgt := 32) X.1 X.2.1 dX9_less_28 (by decide) ?_
  exact w_X9_less_32 X hr  S (lv_sub hl [0, 1] rfl) hF
def f_X9_less_31  (v0 : UInt64) (v2 : UInt64) (h : Hp) : Option (UInt64 × Hp) :=
  f_X9_less_32 v0 v2 0 h
set_option maxHeartbeats 4000000 in
set_option maxRecDepth 100000 in
theorem w_X9_less_31 {p : Program} {l : Launch} {e : Env} {s : State} {m : MethodId} {args : Array Value} {below : List Frame} {meth : Method} {c : Code} {D : va_G} {cA : Nat → ClassId} {sz : Nat} {rr : UInt64} {hh : Hp}  (X : ab_X p s m args meth c cX9_less 5 RX9 D cA sz) (hr : meth.sig.returnType = (some .double))  {H : Heap} {locs : List Loc} {ls : Array Slot} {v0 : UInt64} {v2 : UInt64} {h : Hp} (S : ab_H D cA sz h s H locs) (hl : lv_has ls 5 [(0, .double v0), (2, .double v2)]) (hF : f_X9_less_31 v0 v2 h = some (rr, hh)) : W p l e (ab_rm 1 0 0) s m args below meth c H locs 0 0 (MQ below (ab_Q D cA sz (some (.double rr)) hh) args s 0 0 (fun q => sz ≤ q)) (F0 m 31 ls []) := by
  unfold f_X9_less_31 at hF
  refine lv_iconst (v := 0) X.1 X.2.1 dX9_less_31 (by decide) ?_
  exact w_X9_less_32 X hr  S (lv_sub hl [0, 1] rfl) hF
def f_X9_less (p0 : UInt64) (p1 : UInt64) (h : Hp) : Option (UInt64 × Hp) :=
  bnd (f_X9_isNumber p0 h) fun x1 h2 =>
  if x1 = 0 then
    f_X9_less_27 p0 p1 h2
  else
    bnd (f_X9_isNumber p1 h2) fun x5 h6 =>
    if x5 = 0 then
      f_X9_less_27 p0 p1 h6
    else
      bnd (f_X9_isFinite p0 h6) fun x9 h10 =>
      if ¬ x9 = 0 then
        f_X9_less_31 p0 p1 h10
      else
        if ¬ (Op.cmpValue (FP.dcmp p0 p1) CmpOp.l) = 0 then
          f_X9_less_31 p0 p1 h10
        else
          f_X9_less_27 p0 p1 h10
theorem mi_X9_less : ab_MI yX9_less cX9_less 5 (some .double) 2 := ⟨lc_yX9_less, lz_RX9, by decide, by decide, by decide +kernel⟩
set_option maxHeartbeats 4000000 in
set_option maxRecDepth 100000 in
theorem c_X9_less (l : Launch) (D : va_G) (cA : Nat → ClassId) (sz : Nat) {p0 : UInt64} {p1 : UInt64} {h hh : Hp} {rr : UInt64} (hF : f_X9_less p0 p1 h = some (rr, hh)) : ab_C l D cA sz yX9_less cX9_less 5 (some .double) 1 0 0 [.double p0, .double p1] h (some (.double rr)) hh := by
  refine Met.ofW (cc := cX9_less) (maxL := 5) (ret := (some .double)) (by decide) rfl ?_
  intro p e s m args below meth c s₁ B hml hv
  obtain ⟨rfl, hT, hR⟩ := hv
  have X : ab_X p s m _ meth c cX9_less 5 RX9 D cA sz := (ab_enter B hml hT hR).1
  have S := (ab_enter B hml hT hR).2
  have hr := B.returns
  obtain ⟨ls, hls, hl⟩ := ab_entry m [.double p0, .double p1] 5 (lv := [(0, .double p0), (2, .double p1)]) (by simp [lg_sl, ab_cat, ab_cI, ab_cJ, ab_cD, ab_cF, ab_cA]) (by simp [lv_args, ab_cat, ab_cI, ab_cJ, ab_cD, ab_cF, ab_cA])
  rw [hls]
  have hl : lv_has ls 5 [(0, .double p0), (2, .double p1)] := hl
  unfold f_X9_less at hF
  show W p l e (ab_rm 1 0 0) s m _ below meth c s.heap [] 0 0 _ _
  refine lv_dload_n X.1 X.2.1 dX9_less_0 rfl (lv_at hl 0 rfl) ?_
  obtain ⟨x1, h2, e3, hF⟩ := bnd_out hF
  refine ab_callSi X S (c_X9_isNumber l D cA sz e3) mi_X9_isNumber lm_X9_189 lt_yX9_isNumber (As := [.double p0]) (rest := []) rfl ⟨by decide, by decide⟩ ⟨(by decide), (by decide)⟩ hl.1 rfl (by simp [ab_cat, ab_cI, ab_cJ, ab_cD, ab_cF]) dX9_less_1 (fun H1 locs1 S => ?_)
  refine lv_if_eq (tgt := 27) X.1 X.2.1 dX9_less_4 (by decide) (fun c4 => ?_) (fun c4 => ?_)
  · have hF := ab_pos c4 hF
    exact w_X9_less_27 X hr  S (lv_sub hl [0, 1] rfl) hF
  · have hF := ab_neg c4 hF
    refine lv_dload_n X.1 X.2.1 dX9_less_7 rfl (lv_at hl 1 rfl) ?_
    obtain ⟨x5, h6, e7, hF⟩ := bnd_out hF
    refine ab_callSi X S (c_X9_isNumber l D cA sz e7) mi_X9_isNumber lm_X9_189 lt_yX9_isNumber (As := [.double p1]) (rest := []) rfl ⟨by decide, by decide⟩ ⟨(by decide), (by decide)⟩ hl.1 rfl (by simp [ab_cat, ab_cI, ab_cJ, ab_cD, ab_cF]) dX9_less_8 (fun H1 locs1 S => ?_)
    refine lv_if_eq (tgt := 27) X.1 X.2.1 dX9_less_11 (by decide) (fun c8 => ?_) (fun c8 => ?_)
    · have hF := ab_pos c8 hF
      exact w_X9_less_27 X hr  S (lv_sub hl [0, 1] rfl) hF
    · have hF := ab_neg c8 hF
      refine lv_dload_n X.1 X.2.1 dX9_less_14 rfl (lv_at hl 0 rfl) ?_
      obtain ⟨x9, h10, e11, hF⟩ := bnd_out hF
      refine ab_callSi X S (c_X9_isFinite l D cA sz e11) mi_X9_isFinite lm_X9_193 lt_yX9_isFinite (As := [.double p0]) (rest := []) rfl ⟨by decide, by decide⟩ ⟨(by decide), (by decide)⟩ hl.1 rfl (by simp [ab_cat, ab_cI, ab_cJ, ab_cD, ab_cF]) dX9_less_15 (fun H1 locs1 S => ?_)
      refine lv_if_ne (tgt := 31) X.1 X.2.1 dX9_less_18 (by decide) (fun c12 => ?_) (fun c12 => ?_)
      · have hF := ab_pos c12 hF
        exact w_X9_less_31 X hr  S (lv_sub hl [0, 1] rfl) hF
      · have hF := ab_neg (fun q => q c12) hF
        refine lv_dload_n X.1 X.2.1 dX9_less_21 rfl (lv_at hl 0 rfl) ?_
        refine lv_dload_n X.1 X.2.1 dX9_less_22 rfl (lv_at hl 1 rfl) ?_
        refine lv_dcmp X.1 X.2.1 dX9_less_23 ?_
        refine lv_if_ne (tgt := 31) X.1 X.2.1 dX9_less_24 (by decide) (fun c13 => ?_) (fun c13 => ?_)
        · have hF := ab_pos c13 hF
          exact w_X9_less_31 X hr  S (lv_sub hl [0, 1] rfl) hF
        · have hF := ab_neg (fun q => q c13) hF
          exact w_X9_less_27 X hr  S (lv_sub hl [0, 1] rfl) hF
def f_X9_times_61  (u0 : UInt64) (h : Hp) : Option (UInt64 × Hp) :=
  some (u0, h)
set_option maxHeartbeats 4000000 in
set_option maxRecDepth 100000 in
theorem w_X9_times_61 {p : Program} {l : Launch} {e : Env} {s : State} {m : MethodId} {args : Array Value} {below : List Frame} {meth : Method} {c : Code} {D : va_G} {cA : Nat → ClassId} {sz : Nat} {rr : UInt64} {hh : Hp}  (X : ab_X p s m args meth c cX9_times 5 RX9 D cA sz) (hr : meth.sig.returnType = (some .double))  {H : Heap} {locs : List Loc} {ls : Array Slot} {u0 : UInt64} {h : Hp} (S : ab_H D cA sz h s H locs) (hl : lv_has ls 5 []) (hF : f_X9_times_61 u0 h = some (rr, hh)) : W p l e (ab_rm 1 0 0) s m args below meth c H locs 0 0 (MQ below (ab_Q D cA sz (some (.double rr)) hh) args s 0 0 (fun q => sz ≤ q)) (F0 m 61 ls [.double u0]) := by
  unfold f_X9_times_61 at hF
  exact ab_dret X S hr hF dX9_times_61
def f_X9_times_45  (v0 : UInt64) (v2 : UInt64) (u0 : Int32) (h : Hp) : Option (UInt64 × Hp) :=
  if u0 = 0 then
    (fop (FP.dmul v0 v2)).bind fun x2 =>
    f_X9_times_61 x2 h
  else
    f_X9_times_61 9221120237041090560 h
set_option maxHeartbeats 4000000 in
set_option maxRecDepth 100000 in
theorem w_X9_times_45 {p : Program} {l : Launch} {e : Env} {s : State} {m : MethodId} {args : Array Value} {below : List Frame} {meth : Method} {c : Code} {D : va_G} {cA : Nat → ClassId} {sz : Nat} {rr : UInt64} {hh : Hp}  (X : ab_X p s m args meth c cX9_times 5 RX9 D cA sz) (hr : meth.sig.returnType = (some .double))  {H : Heap} {locs : List Loc} {ls : Array Slot} {v0 : UInt64} {v2 : UInt64} {u0 : Int32} {h : Hp} (S : ab_H D cA sz h s H locs) (hl : lv_has ls 5 [(0, .double v0), (2, .double v2)]) (hF : f_X9_times_45 v0 v2 u0 h = some (rr, hh)) : W p l e (ab_rm 1 0 0) s m args below meth c H locs 0 0 (MQ below (ab_Q D cA sz (some (.double rr)) hh) args s 0 0 (fun q => sz ≤ q)) (F0 m 45 ls [.int u0]) := by
  unfold f_X9_times_45 at hF
  refine lv_istore (lv' := [(4, .int u0), (0, .double v0), (2, .double v2)]) X.1 X.2.1 dX9_times_45 hl (by decide) (by simp [ab_cat, ab_cI, ab_cJ, ab_cD, ab_cF]) (fun ls hl => ?_)
  refine lv_iload X.1 X.2.1 dX9_times_47 (lv_at hl 0 rfl) ?_
  refine lv_if_eq (tgt := 58) X.1 X.2.1 dX9_times_49 (by decide) (fun c1 => ?_) (fun c1 => ?_)
  · have hF := ab_pos c1 hF
    refine lv_dload_n X.1 X.2.1 dX9_times_58 rfl (lv_at hl 1 rfl) ?_
    refine lv_dload_n X.1 X.2.1 dX9_times_59 rfl (lv_at hl 2 rfl) ?_
    obtain ⟨x2, ev, ne, hF⟩ := ab_fopx hF
    refine lv_dmul X.1 X.2.1 dX9_times_60 ne ?_
    rw [ev]
    exact w_X9_times_61 X hr  S (lv_sub hl [] rfl) hF
  · have hF := ab_neg c1 hF
    refine lv_ldc2d (v := 9221120237041090560) X.1 X.2.1 X.2.2.2.1 (X.2.2.2.2.1 _ ld_X9_196) dX9_times_52 ?_
    refine lv_goto (tgt := 61) X.1 X.2.1 dX9_times_55 (by decide) ?_
    exact w_X9_times_61 X hr  S (lv_sub hl [] rfl) hF
def f_X9_times_40  (v0 : UInt64) (v2 : UInt64) (h : Hp) : Option (UInt64 × Hp) :=
  f_X9_times_45 v0 v2 1 h
set_option maxHeartbeats 4000000 in
set_option maxRecDepth 100000 in
theorem w_X9_times_40 {p : Program} {l : Launch} {e : Env} {s : State} {m : MethodId} {args : Array Value} {below : List Frame} {meth : Method} {c : Code} {D : va_G} {cA : Nat → ClassId} {sz : Nat} {rr : UInt64} {hh : Hp}  (X : ab_X p s m args meth c cX9_times 5 RX9 D cA sz) (hr : meth.sig.returnType = (some .double))  {H : Heap} {locs : List Loc} {ls : Array Slot} {v0 : UInt64} {v2 : UInt64} {h : Hp} (S : ab_H D cA sz h s H locs) (hl : lv_has ls 5 [(0, .double v0), (2, .double v2)]) (hF : f_X9_times_40 v0 v2 h = some (rr, hh)) : W p l e (ab_rm 1 0 0) s m args below meth c H locs 0 0 (MQ below (ab_Q D cA sz (some (.double rr)) hh) args s 0 0 (fun q => sz ≤ q)) (F0 m 40 ls []) := by
  unfold f_X9_times_40 at hF
  refine lv_iconst (v := 1) X.1 X.2.1 dX9_times_40 (by decide) ?_
  refine lv_goto (tgt := 45) X.1 X.2.1 dX9_times_41 (by decide) ?_
  exact w_X9_times_45 X hr  S (lv_sub hl [0, 1] rfl) hF
def f_X9_times_44  (v0 : UInt64) (v2 : UInt64) (h : Hp) : Option (UInt64 × Hp) :=
  f_X9_times_45 v0 v2 0 h
set_option maxHeartbeats 4000000 in
set_option maxRecDepth 100000 in
theorem w_X9_times_44 {p : Program} {l : Launch} {e : Env} {s : State} {m : MethodId} {args : Array Value} {below : List Frame} {meth : Method} {c : Code} {D : va_G} {cA : Nat → ClassId} {sz : Nat} {rr : UInt64} {hh : Hp}  (X : ab_X p s m args meth c cX9_times 5 RX9 D cA sz) (hr : meth.sig.returnType = (some .double))  {H : Heap} {locs : List Loc} {ls : Array Slot} {v0 : UInt64} {v2 : UInt64} {h : Hp} (S : ab_H D cA sz h s H locs) (hl : lv_has ls 5 [(0, .double v0), (2, .double v2)]) (hF : f_X9_times_44 v0 v2 h = some (rr, hh)) : W p l e (ab_rm 1 0 0) s m args below meth c H locs 0 0 (MQ below (ab_Q D cA sz (some (.double rr)) hh) args s 0 0 (fun q => sz ≤ q)) (F0 m 44 ls []) := by
  unfold f_X9_times_44 at hF
  refine lv_iconst (v := 0) X.1 X.2.1 dX9_times_44 (by decide) ?_
  exact w_X9_times_45 X hr  S (lv_sub hl [0, 1] rfl) hF
def f_X9_times_27  (v0 : UInt64) (v2 : UInt64) (h : Hp) : Option (UInt64 × Hp) :=
  if ¬ (Op.cmpValue (FP.dcmp v2 FP.dconst0) CmpOp.l) = 0 then
    f_X9_times_44 v0 v2 h
  else
    bnd (f_X9_isFinite v0 h) fun x2 h3 =>
    if ¬ x2 = 0 then
      f_X9_times_44 v0 v2 h3
    else
      f_X9_times_40 v0 v2 h3
set_option maxHeartbeats 4000000 in
set_option maxRecDepth 100000 in
theorem w_X9_times_27 {p : Program} {l : Launch} {e : Env} {s : State} {m : MethodId} {args : Array Value} {below : List Frame} {meth : Method} {c : Code} {D : va_G} {cA : Nat → ClassId} {sz : Nat} {rr : UInt64} {hh : Hp}  (X : ab_X p s m args meth c cX9_times 5 RX9 D cA sz) (hr : meth.sig.returnType = (some .double))  {H : Heap} {locs : List Loc} {ls : Array Slot} {v0 : UInt64} {v2 : UInt64} {h : Hp} (S : ab_H D cA sz h s H locs) (hl : lv_has ls 5 [(0, .double v0), (2, .double v2)]) (hF : f_X9_times_27 v0 v2 h = some (rr, hh)) : W p l e (ab_rm 1 0 0) s m args below meth c H locs 0 0 (MQ below (ab_Q D cA sz (some (.double rr)) hh) args s 0 0 (fun q => sz ≤ q)) (F0 m 27 ls []) := by
  unfold f_X9_times_27 at hF
  refine lv_dload_n X.1 X.2.1 dX9_times_27 rfl (lv_at hl 1 rfl) ?_
  refine lv_dconst0 X.1 X.2.1 dX9_times_28 ?_
  refine lv_dcmp X.1 X.2.1 dX9_times_29 ?_
  refine lv_if_ne (tgt := 44) X.1 X.2.1 dX9_times_30 (by decide) (fun c1 => ?_) (fun c1 => ?_)
  · have hF := ab_pos c1 hF
    exact w_X9_times_44 X hr  S (lv_sub hl [0, 1] rfl) hF
  · have hF := ab_neg (fun q => q c1) hF
    refine lv_dload_n X.1 X.2.1 dX9_times_33 rfl (lv_at hl 0 rfl) ?_
    obtain ⟨x2, h3, e4, hF⟩ := bnd_out hF
    refine ab_callSi X S (c_X9_isFinite l D cA sz e4) mi_X9_isFinite lm_X9_193 lt_yX9_isFinite (As := [.double v0]) (rest := []) rfl ⟨by decide, by decide⟩ ⟨(by decide), (by decide)⟩ hl.1 rfl (by simp [ab_cat, ab_cI, ab_cJ, ab_cD, ab_cF]) dX9_times_34 (fun H1 locs1 S => ?_)
    refine lv_if_ne (tgt := 44) X.1 X.2.1 dX9_times_37 (by decide) (fun c5 => ?_) (fun c5 => ?_)
    · have hF := ab_pos c5 hF
      exact w_X9_times_44 X hr  S (lv_sub hl [0, 1] rfl) hF
    · have hF := ab_neg (fun q => q c5) hF
      exact w_X9_times_40 X hr  S (lv_sub hl [0, 1] rfl) hF
def f_X9_times (p0 : UInt64) (p1 : UInt64) (h : Hp) : Option (UInt64 × Hp) :=
  bnd (f_X9_isNumber p0 h) fun x1 h2 =>
  if x1 = 0 then
    f_X9_times_40 p0 p1 h2
  else
    bnd (f_X9_isNumber p1 h2) fun x5 h6 =>
    if x5 = 0 then
      f_X9_times_40 p0 p1 h6
    else
      if ¬ (Op.cmpValue (FP.dcmp p0 FP.dconst0) CmpOp.l) = 0 then
        f_X9_times_27 p0 p1 h6
      else
        bnd (f_X9_isFinite p1 h6) fun x10 h11 =>
        if x10 = 0 then
          f_X9_times_40 p0 p1 h11
        else
          f_X9_times_27 p0 p1 h11
theorem mi_X9_times : ab_MI yX9_times cX9_times 5 (some .double) 2 := ⟨lc_yX9_times, lz_RX9, by decide, by decide, by decide +kernel⟩
set_option maxHeartbeats 4000000 in
set_option maxRecDepth 100000 in
theorem c_X9_times (l : Launch) (D : va_G) (cA : Nat → ClassId) (sz : Nat) {p0 : UInt64} {p1 : UInt64} {h hh : Hp} {rr : UInt64} (hF : f_X9_times p0 p1 h = some (rr, hh)) : ab_C l D cA sz yX9_times cX9_times 5 (some .double) 1 0 0 [.double p0, .double p1] h (some (.double rr)) hh := by
  refine Met.ofW (cc := cX9_times) (maxL := 5) (ret := (some .double)) (by decide) rfl ?_
  intro p e s m args below meth c s₁ B hml hv
  obtain ⟨rfl, hT, hR⟩ := hv
  have X : ab_X p s m _ meth c cX9_times 5 RX9 D cA sz := (ab_enter B hml hT hR).1
  have S := (ab_enter B hml hT hR).2
  have hr := B.returns
  obtain ⟨ls, hls, hl⟩ := ab_entry m [.double p0, .double p1] 5 (lv := [(0, .double p0), (2, .double p1)]) (by simp [lg_sl, ab_cat, ab_cI, ab_cJ, ab_cD, ab_cF, ab_cA]) (by simp [lv_args, ab_cat, ab_cI, ab_cJ, ab_cD, ab_cF, ab_cA])
  rw [hls]
  have hl : lv_has ls 5 [(0, .double p0), (2, .double p1)] := hl
  unfold f_X9_times at hF
  show W p l e (ab_rm 1 0 0) s m _ below meth c s.heap [] 0 0 _ _
  refine lv_dload_n X.1 X.2.1 dX9_times_0 rfl (lv_at hl 0 rfl) ?_
  obtain ⟨x1, h2, e3, hF⟩ := bnd_out hF
  refine ab_callSi X S (c_X9_isNumber l D cA sz e3) mi_X9_isNumber lm_X9_189 lt_yX9_isNumber (As := [.double p0]) (rest := []) rfl ⟨by decide, by decide⟩ ⟨(by decide), (by decide)⟩ hl.1 rfl (by simp [ab_cat, ab_cI, ab_cJ, ab_cD, ab_cF]) dX9_times_1 (fun H1 locs1 S => ?_)
  refine lv_if_eq (tgt := 40) X.1 X.2.1 dX9_times_4 (by decide) (fun c4 => ?_) (fun c4 => ?_)
  · have hF := ab_pos c4 hF
    exact w_X9_times_40 X hr  S (lv_sub hl [0, 1] rfl) hF
  · have hF := ab_neg c4 hF
    refine lv_dload_n X.1 X.2.1 dX9_times_7 rfl (lv_at hl 1 rfl) ?_
    obtain ⟨x5, h6, e7, hF⟩ := bnd_out hF
    refine ab_callSi X S (c_X9_isNumber l D cA sz e7) mi_X9_isNumber lm_X9_189 lt_yX9_isNumber (As := [.double p1]) (rest := []) rfl ⟨by decide, by decide⟩ ⟨(by decide), (by decide)⟩ hl.1 rfl (by simp [ab_cat, ab_cI, ab_cJ, ab_cD, ab_cF]) dX9_times_8 (fun H1 locs1 S => ?_)
    refine lv_if_eq (tgt := 40) X.1 X.2.1 dX9_times_11 (by decide) (fun c8 => ?_) (fun c8 => ?_)
    · have hF := ab_pos c8 hF
      exact w_X9_times_40 X hr  S (lv_sub hl [0, 1] rfl) hF
    · have hF := ab_neg c8 hF
      refine lv_dload_n X.1 X.2.1 dX9_times_14 rfl (lv_at hl 0 rfl) ?_
      refine lv_dconst0 X.1 X.2.1 dX9_times_15 ?_
      refine lv_dcmp X.1 X.2.1 dX9_times_16 ?_
      refine lv_if_ne (tgt := 27) X.1 X.2.1 dX9_times_17 (by decide) (fun c9 => ?_) (fun c9 => ?_)
      · have hF := ab_pos c9 hF
        exact w_X9_times_27 X hr  S (lv_sub hl [0, 1] rfl) hF
      · have hF := ab_neg (fun q => q c9) hF
        refine lv_dload_n X.1 X.2.1 dX9_times_20 rfl (lv_at hl 1 rfl) ?_
        obtain ⟨x10, h11, e12, hF⟩ := bnd_out hF
        refine ab_callSi X S (c_X9_isFinite l D cA sz e12) mi_X9_isFinite lm_X9_193 lt_yX9_isFinite (As := [.double p1]) (rest := []) rfl ⟨by decide, by decide⟩ ⟨(by decide), (by decide)⟩ hl.1 rfl (by simp [ab_cat, ab_cI, ab_cJ, ab_cD, ab_cF]) dX9_times_21 (fun H1 locs1 S => ?_)
        refine lv_if_eq (tgt := 40) X.1 X.2.1 dX9_times_24 (by decide) (fun c13 => ?_) (fun c13 => ?_)
        · have hF := ab_pos c13 hF
          exact w_X9_times_40 X hr  S (lv_sub hl [0, 1] rfl) hF
        · have hF := ab_neg c13 hF
          exact w_X9_times_27 X hr  S (lv_sub hl [0, 1] rfl) hF
def f_X9_by_61  (u0 : UInt64) (h : Hp) : Option (UInt64 × Hp) :=
  some (u0, h)
set_option maxHeartbeats 4000000 in
set_option maxRecDepth 100000 in
theorem w_X9_by_61 {p : Program} {l : Launch} {e : Env} {s : State} {m : MethodId} {args : Array Value} {below : List Frame} {meth : Method} {c : Code} {D : va_G} {cA : Nat → ClassId} {sz : Nat} {rr : UInt64} {hh : Hp}  (X : ab_X p s m args meth c cX9_by 5 RX9 D cA sz) (hr : meth.sig.returnType = (some .double))  {H : Heap} {locs : List Loc} {ls : Array Slot} {u0 : UInt64} {h : Hp} (S : ab_H D cA sz h s H locs) (hl : lv_has ls 5 []) (hF : f_X9_by_61 u0 h = some (rr, hh)) : W p l e (ab_rm 1 0 0) s m args below meth c H locs 0 0 (MQ below (ab_Q D cA sz (some (.double rr)) hh) args s 0 0 (fun q => sz ≤ q)) (F0 m 61 ls [.double u0]) := by
  unfold f_X9_by_61 at hF
  exact ab_dret X S hr hF dX9_by_61
def f_X9_by_45  (v0 : UInt64) (v2 : UInt64) (u0 : Int32) (h : Hp) : Option (UInt64 × Hp) :=
  if u0 = 0 then
    (fop (FP.ddiv v0 v2)).bind fun x2 =>
    f_X9_by_61 x2 h
  else
    f_X9_by_61 9221120237041090560 h
set_option maxHeartbeats 4000000 in
set_option maxRecDepth 100000 in
theorem w_X9_by_45 {p : Program} {l : Launch} {e : Env} {s : State} {m : MethodId} {args : Array Value} {below : List Frame} {meth : Method} {c : Code} {D : va_G} {cA : Nat → ClassId} {sz : Nat} {rr : UInt64} {hh : Hp}  (X : ab_X p s m args meth c cX9_by 5 RX9 D cA sz) (hr : meth.sig.returnType = (some .double))  {H : Heap} {locs : List Loc} {ls : Array Slot} {v0 : UInt64} {v2 : UInt64} {u0 : Int32} {h : Hp} (S : ab_H D cA sz h s H locs) (hl : lv_has ls 5 [(0, .double v0), (2, .double v2)]) (hF : f_X9_by_45 v0 v2 u0 h = some (rr, hh)) : W p l e (ab_rm 1 0 0) s m args below meth c H locs 0 0 (MQ below (ab_Q D cA sz (some (.double rr)) hh) args s 0 0 (fun q => sz ≤ q)) (F0 m 45 ls [.int u0]) := by
  unfold f_X9_by_45 at hF
  refine lv_istore (lv' := [(4, .int u0), (0, .double v0), (2, .double v2)]) X.1 X.2.1 dX9_by_45 hl (by decide) (by simp [ab_cat, ab_cI, ab_cJ, ab_cD, ab_cF]) (fun ls hl => ?_)
  refine lv_iload X.1 X.2.1 dX9_by_47 (lv_at hl 0 rfl) ?_
  refine lv_if_eq (tgt := 58) X.1 X.2.1 dX9_by_49 (by decide) (fun c1 => ?_) (fun c1 => ?_)
  · have hF := ab_pos c1 hF
    refine lv_dload_n X.1 X.2.1 dX9_by_58 rfl (lv_at hl 1 rfl) ?_
    refine lv_dload_n X.1 X.2.1 dX9_by_59 rfl (lv_at hl 2 rfl) ?_
    obtain ⟨x2, ev, ne, hF⟩ := ab_fopx hF
    refine lv_ddiv X.1 X.2.1 dX9_by_60 ne ?_
    rw [ev]
    exact w_X9_by_61 X hr  S (lv_sub hl [] rfl) hF
  · have hF := ab_neg c1 hF
    refine lv_ldc2d (v := 9221120237041090560) X.1 X.2.1 X.2.2.2.1 (X.2.2.2.2.1 _ ld_X9_196) dX9_by_52 ?_
    refine lv_goto (tgt := 61) X.1 X.2.1 dX9_by_55 (by decide) ?_
    exact w_X9_by_61 X hr  S (lv_sub hl [] rfl) hF
def f_X9_by_40  (v0 : UInt64) (v2 : UInt64) (h : Hp) : Option (UInt64 × Hp) :=
  f_X9_by_45 v0 v2 1 h
set_option maxHeartbeats 4000000 in
set_option maxRecDepth 100000 in
theorem w_X9_by_40 {p : Program} {l : Launch} {e : Env} {s : State} {m : MethodId} {args : Array Value} {below : List Frame} {meth : Method} {c : Code} {D : va_G} {cA : Nat → ClassId} {sz : Nat} {rr : UInt64} {hh : Hp}  (X : ab_X p s m args meth c cX9_by 5 RX9 D cA sz) (hr : meth.sig.returnType = (some .double))  {H : Heap} {locs : List Loc} {ls : Array Slot} {v0 : UInt64} {v2 : UInt64} {h : Hp} (S : ab_H D cA sz h s H locs) (hl : lv_has ls 5 [(0, .double v0), (2, .double v2)]) (hF : f_X9_by_40 v0 v2 h = some (rr, hh)) : W p l e (ab_rm 1 0 0) s m args below meth c H locs 0 0 (MQ below (ab_Q D cA sz (some (.double rr)) hh) args s 0 0 (fun q => sz ≤ q)) (F0 m 40 ls []) := by
  unfold f_X9_by_40 at hF
  refine lv_iconst (v := 1) X.1 X.2.1 dX9_by_40 (by decide) ?_
  refine lv_goto (tgt := 45) X.1 X.2.1 dX9_by_41 (by decide) ?_
  exact w_X9_by_45 X hr  S (lv_sub hl [0, 1] rfl) hF
def f_X9_by_44  (v0 : UInt64) (v2 : UInt64) (h : Hp) : Option (UInt64 × Hp) :=
  f_X9_by_45 v0 v2 0 h
set_option maxHeartbeats 4000000 in
set_option maxRecDepth 100000 in
theorem w_X9_by_44 {p : Program} {l : Launch} {e : Env} {s : State} {m : MethodId} {args : Array Value} {below : List Frame} {meth : Method} {c : Code} {D : va_G} {cA : Nat → ClassId} {sz : Nat} {rr : UInt64} {hh : Hp}  (X : ab_X p s m args meth c cX9_by 5 RX9 D cA sz) (hr : meth.sig.returnType = (some .double))  {H : Heap} {locs : List Loc} {ls : Array Slot} {v0 : UInt64} {v2 : UInt64} {h : Hp} (S : ab_H D cA sz h s H locs) (hl : lv_has ls 5 [(0, .double v0), (2, .double v2)]) (hF : f_X9_by_44 v0 v2 h = some (rr, hh)) : W p l e (ab_rm 1 0 0) s m args below meth c H locs 0 0 (MQ below (ab_Q D cA sz (some (.double rr)) hh) args s 0 0 (fun q => sz ≤ q)) (F0 m 44 ls []) := by
  unfold f_X9_by_44 at hF
  refine lv_iconst (v := 0) X.1 X.2.1 dX9_by_44 (by decide) ?_
  exact w_X9_by_45 X hr  S (lv_sub hl [0, 1] rfl) hF
def f_X9_by_26  (v0 : UInt64) (v2 : UInt64) (h : Hp) : Option (UInt64 × Hp) :=
  bnd (f_X9_isFinite v0 h) fun x1 h2 =>
  if ¬ x1 = 0 then
    f_X9_by_44 v0 v2 h2
  else
    bnd (f_X9_isFinite v2 h2) fun x5 h6 =>
    if ¬ x5 = 0 then
      f_X9_by_44 v0 v2 h6
    else
      f_X9_by_40 v0 v2 h6
set_option maxHeartbeats 4000000 in
set_option maxRecDepth 100000 in
theorem w_X9_by_26 {p : Program} {l : Launch} {e : Env} {s : State} {m : MethodId} {args : Array Value} {below : List Frame} {meth : Method} {c : Code} {D : va_G} {cA : Nat → ClassId} {sz : Nat} {rr : UInt64} {hh : Hp}  (X : ab_X p s m args meth c cX9_by 5 RX9 D cA sz) (hr : meth.sig.returnType = (some .double))  {H : Heap} {locs : List Loc} {ls : Array Slot} {v0 : UInt64} {v2 : UInt64} {h : Hp} (S : ab_H D cA sz h s H locs) (hl : lv_has ls 5 [(0, .double v0), (2, .double v2)]) (hF : f_X9_by_26 v0 v2 h = some (rr, hh)) : W p l e (ab_rm 1 0 0) s m args below meth c H locs 0 0 (MQ below (ab_Q D cA sz (some (.double rr)) hh) args s 0 0 (fun q => sz ≤ q)) (F0 m 26 ls []) := by
  unfold f_X9_by_26 at hF
  refine lv_dload_n X.1 X.2.1 dX9_by_26 rfl (lv_at hl 0 rfl) ?_
  obtain ⟨x1, h2, e3, hF⟩ := bnd_out hF
  refine ab_callSi X S (c_X9_isFinite l D cA sz e3) mi_X9_isFinite lm_X9_193 lt_yX9_isFinite (As := [.double v0]) (rest := []) rfl ⟨by decide, by decide⟩ ⟨(by decide), (by decide)⟩ hl.1 rfl (by simp [ab_cat, ab_cI, ab_cJ, ab_cD, ab_cF]) dX9_by_27 (fun H1 locs1 S => ?_)
  refine lv_if_ne (tgt := 44) X.1 X.2.1 dX9_by_30 (by decide) (fun c4 => ?_) (fun c4 => ?_)
  · have hF := ab_pos c4 hF
    exact w_X9_by_44 X hr  S (lv_sub hl [0, 1] rfl) hF
  · have hF := ab_neg (fun q => q c4) hF
    refine lv_dload_n X.1 X.2.1 dX9_by_33 rfl (lv_at hl 1 rfl) ?_
    obtain ⟨x5, h6, e7, hF⟩ := bnd_out hF
    refine ab_callSi X S (c_X9_isFinite l D cA sz e7) mi_X9_isFinite lm_X9_193 lt_yX9_isFinite (As := [.double v2]) (rest := []) rfl ⟨by decide, by decide⟩ ⟨(by decide), (by decide)⟩ hl.1 rfl (by simp [ab_cat, ab_cI, ab_cJ, ab_cD, ab_cF]) dX9_by_34 (fun H1 locs1 S => ?_)
    refine lv_if_ne (tgt := 44) X.1 X.2.1 dX9_by_37 (by decide) (fun c8 => ?_) (fun c8 => ?_)
    · have hF := ab_pos c8 hF
      exact w_X9_by_44 X hr  S (lv_sub hl [0, 1] rfl) hF
    · have hF := ab_neg (fun q => q c8) hF
      exact w_X9_by_40 X hr  S (lv_sub hl [0, 1] rfl) hF
def f_X9_by (p0 : UInt64) (p1 : UInt64) (h : Hp) : Option (UInt64 × Hp) :=
  bnd (f_X9_isNumber p0 h) fun x1 h2 =>
  if x1 = 0 then
    f_X9_by_40 p0 p1 h2
  else
    bnd (f_X9_isNumber p1 h2) fun x5 h6 =>
    if x5 = 0 then
      f_X9_by_40 p0 p1 h6
    else
      if ¬ (Op.cmpValue (FP.dcmp p0 FP.dconst0) CmpOp.l) = 0 then
        f_X9_by_26 p0 p1 h6
      else
        if (Op.cmpValue (FP.dcmp p1 FP.dconst0) CmpOp.l) = 0 then
          f_X9_by_40 p0 p1 h6
        else
          f_X9_by_26 p0 p1 h6
theorem mi_X9_by : ab_MI yX9_by cX9_by 5 (some .double) 2 := ⟨lc_yX9_by, lz_RX9, by decide, by decide, by decide +kernel⟩
set_option maxHeartbeats 4000000 in
set_option maxRecDepth 100000 in
theorem c_X9_by (l : Launch) (D : va_G) (cA : Nat → ClassId) (sz : Nat) {p0 : UInt64} {p1 : UInt64} {h hh : Hp} {rr : UInt64} (hF : f_X9_by p0 p1 h = some (rr, hh)) : ab_C l D cA sz yX9_by cX9_by 5 (some .double) 1 0 0 [.double p0, .double p1] h (some (.double rr)) hh := by
  refine Met.ofW (cc := cX9_by) (maxL := 5) (ret := (some .double)) (by decide) rfl ?_
  intro p e s m args below meth c s₁ B hml hv
  obtain ⟨rfl, hT, hR⟩ := hv
  have X : ab_X p s m _ meth c cX9_by 5 RX9 D cA sz := (ab_enter B hml hT hR).1
  have S := (ab_enter B hml hT hR).2
  have hr := B.returns
  obtain ⟨ls, hls, hl⟩ := ab_entry m [.double p0, .double p1] 5 (lv := [(0, .double p0), (2, .double p1)]) (by simp [lg_sl, ab_cat, ab_cI, ab_cJ, ab_cD, ab_cF, ab_cA]) (by simp [lv_args, ab_cat, ab_cI, ab_cJ, ab_cD, ab_cF, ab_cA])
  rw [hls]
  have hl : lv_has ls 5 [(0, .double p0), (2, .double p1)] := hl
  unfold f_X9_by at hF
  show W p l e (ab_rm 1 0 0) s m _ below meth c s.heap [] 0 0 _ _
  refine lv_dload_n X.1 X.2.1 dX9_by_0 rfl (lv_at hl 0 rfl) ?_
  obtain ⟨x1, h2, e3, hF⟩ := bnd_out hF
  refine ab_callSi X S (c_X9_isNumber l D cA sz e3) mi_X9_isNumber lm_X9_189 lt_yX9_isNumber (As := [.double p0]) (rest := []) rfl ⟨by decide, by decide⟩ ⟨(by decide), (by decide)⟩ hl.1 rfl (by simp [ab_cat, ab_cI, ab_cJ, ab_cD, ab_cF]) dX9_by_1 (fun H1 locs1 S => ?_)
  refine lv_if_eq (tgt := 40) X.1 X.2.1 dX9_by_4 (by decide) (fun c4 => ?_) (fun c4 => ?_)
  · have hF := ab_pos c4 hF
    exact w_X9_by_40 X hr  S (lv_sub hl [0, 1] rfl) hF
  · have hF := ab_neg c4 hF
    refine lv_dload_n X.1 X.2.1 dX9_by_7 rfl (lv_at hl 1 rfl) ?_
    obtain ⟨x5, h6, e7, hF⟩ := bnd_out hF
    refine ab_callSi X S (c_X9_isNumber l D cA sz e7) mi_X9_isNumber lm_X9_189 lt_yX9_isNumber (As := [.double p1]) (rest := []) rfl ⟨by decide, by decide⟩ ⟨(by decide), (by decide)⟩ hl.1 rfl (by simp [ab_cat, ab_cI, ab_cJ, ab_cD, ab_cF]) dX9_by_8 (fun H1 locs1 S => ?_)
    refine lv_if_eq (tgt := 40) X.1 X.2.1 dX9_by_11 (by decide) (fun c8 => ?_) (fun c8 => ?_)
    · have hF := ab_pos c8 hF
      exact w_X9_by_40 X hr  S (lv_sub hl [0, 1] rfl) hF
    · have hF := ab_neg c8 hF
      refine lv_dload_n X.1 X.2.1 dX9_by_14 rfl (lv_at hl 0 rfl) ?_
      refine lv_dconst0 X.1 X.2.1 dX9_by_15 ?_
      refine lv_dcmp X.1 X.2.1 dX9_by_16 ?_
      refine lv_if_ne (tgt := 26) X.1 X.2.1 dX9_by_17 (by decide) (fun c9 => ?_) (fun c9 => ?_)
      · have hF := ab_pos c9 hF
        exact w_X9_by_26 X hr  S (lv_sub hl [0, 1] rfl) hF
      · have hF := ab_neg (fun q => q c9) hF
        refine lv_dload_n X.1 X.2.1 dX9_by_20 rfl (lv_at hl 1 rfl) ?_
        refine lv_dconst0 X.1 X.2.1 dX9_by_21 ?_
        refine lv_dcmp X.1 X.2.1 dX9_by_22 ?_
        refine lv_if_eq (tgt := 40) X.1 X.2.1 dX9_by_23 (by decide) (fun c10 => ?_) (fun c10 => ?_)
        · have hF := ab_pos c10 hF
          exact w_X9_by_40 X hr  S (lv_sub hl [0, 1] rfl) hF
        · have hF := ab_neg c10 hF
          exact w_X9_by_26 X hr  S (lv_sub hl [0, 1] rfl) hF
def f_X9_turned_15  (u0 : UInt64) (h : Hp) : Option (UInt64 × Hp) :=
  some (u0, h)
set_option maxHeartbeats 4000000 in
set_option maxRecDepth 100000 in
theorem w_X9_turned_15 {p : Program} {l : Launch} {e : Env} {s : State} {m : MethodId} {args : Array Value} {below : List Frame} {meth : Method} {c : Code} {D : va_G} {cA : Nat → ClassId} {sz : Nat} {rr : UInt64} {hh : Hp}  (X : ab_X p s m args meth c cX9_turned 2 RX9 D cA sz) (hr : meth.sig.returnType = (some .double))  {H : Heap} {locs : List Loc} {ls : Array Slot} {u0 : UInt64} {h : Hp} (S : ab_H D cA sz h s H locs) (hl : lv_has ls 2 []) (hF : f_X9_turned_15 u0 h = some (rr, hh)) : W p l e (ab_rm 1 0 0) s m args below meth c H locs 0 0 (MQ below (ab_Q D cA sz (some (.double rr)) hh) args s 0 0 (fun q => sz ≤ q)) (F0 m 15 ls [.double u0]) := by
  unfold f_X9_turned_15 at hF
  exact ab_dret X S hr hF dX9_turned_15
def f_X9_turned (p0 : UInt64) (h : Hp) : Option (UInt64 × Hp) :=
  bnd (f_X9_isNumber p0 h) fun x1 h2 =>
  if x1 = 0 then
    f_X9_turned_15 9221120237041090560 h2
  else
    f_X9_turned_15 (FP.dneg p0) h2
theorem mi_X9_turned : ab_MI yX9_turned cX9_turned 2 (some .double) 1 := ⟨lc_yX9_turned, lz_RX9, by decide, by decide, by decide +kernel⟩
set_option maxHeartbeats 4000000 in
set_option maxRecDepth 100000 in
theorem c_X9_turned (l : Launch) (D : va_G) (cA : Nat → ClassId) (sz : Nat) {p0 : UInt64} {h hh : Hp} {rr : UInt64} (hF : f_X9_turned p0 h = some (rr, hh)) : ab_C l D cA sz yX9_turned cX9_turned 2 (some .double) 1 0 0 [.double p0] h (some (.double rr)) hh := by
  refine Met.ofW (cc := cX9_turned) (maxL := 2) (ret := (some .double)) (by decide) rfl ?_
  intro p e s m args below meth c s₁ B hml hv
  obtain ⟨rfl, hT, hR⟩ := hv
  have X : ab_X p s m _ meth c cX9_turned 2 RX9 D cA sz := (ab_enter B hml hT hR).1
  have S := (ab_enter B hml hT hR).2
  have hr := B.returns
  obtain ⟨ls, hls, hl⟩ := ab_entry m [.double p0] 2 (lv := [(0, .double p0)]) (by simp [lg_sl, ab_cat, ab_cI, ab_cJ, ab_cD, ab_cF, ab_cA]) (by simp [lv_args, ab_cat, ab_cI, ab_cJ, ab_cD, ab_cF, ab_cA])
  rw [hls]
  have hl : lv_has ls 2 [(0, .double p0)] := hl
  unfold f_X9_turned at hF
  show W p l e (ab_rm 1 0 0) s m _ below meth c s.heap [] 0 0 _ _
  refine lv_dload_n X.1 X.2.1 dX9_turned_0 rfl (lv_at hl 0 rfl) ?_
  obtain ⟨x1, h2, e3, hF⟩ := bnd_out hF
  refine ab_callSi X S (c_X9_isNumber l D cA sz e3) mi_X9_isNumber lm_X9_189 lt_yX9_isNumber (As := [.double p0]) (rest := []) rfl ⟨by decide, by decide⟩ ⟨(by decide), (by decide)⟩ hl.1 rfl (by simp [ab_cat, ab_cI, ab_cJ, ab_cD, ab_cF]) dX9_turned_1 (fun H1 locs1 S => ?_)
  refine lv_if_eq (tgt := 12) X.1 X.2.1 dX9_turned_4 (by decide) (fun c4 => ?_) (fun c4 => ?_)
  · have hF := ab_pos c4 hF
    refine lv_ldc2d (v := 9221120237041090560) X.1 X.2.1 X.2.2.2.1 (X.2.2.2.2.1 _ ld_X9_196) dX9_turned_12 ?_
    exact w_X9_turned_15 X hr  S (lv_sub hl [] rfl) hF
  · have hF := ab_neg c4 hF
    refine lv_dload_n X.1 X.2.1 dX9_turned_7 rfl (lv_at hl 0 rfl) ?_
    refine lv_dneg X.1 X.2.1 dX9_turned_8 ?_
    refine lv_goto (tgt := 15) X.1 X.2.1 dX9_turned_9 (by decide) ?_
    exact w_X9_turned_15 X hr  S (lv_sub hl [] rfl) hF
def f_X9_size_22  (u0 : UInt64) (h : Hp) : Option (UInt64 × Hp) :=
  some (u0, h)
set_option maxHeartbeats 4000000 in
set_option maxRecDepth 100000 in
theorem w_X9_size_22 {p : Program} {l : Launch} {e : Env} {s : State} {m : MethodId} {args : Array Value} {below : List Frame} {meth : Method} {c : Code} {D : va_G} {cA : Nat → ClassId} {sz : Nat} {rr : UInt64} {hh : Hp}  (X : ab_X p s m args meth c cX9_size 2 RX9 D cA sz) (hr : meth.sig.returnType = (some .double))  {H : Heap} {locs : List Loc} {ls : Array Slot} {u0 : UInt64} {h : Hp} (S : ab_H D cA sz h s H locs) (hl : lv_has ls 2 []) (hF : f_X9_size_22 u0 h = some (rr, hh)) : W p l e (ab_rm 0 0 0) s m args below meth c H locs 0 0 (MQ below (ab_Q D cA sz (some (.double rr)) hh) args s 0 0 (fun q => sz ≤ q)) (F0 m 22 ls [.double u0]) := by
  unfold f_X9_size_22 at hF
  exact ab_dret X S hr hF dX9_size_22
def f_X9_size (p0 : UInt64) (h : Hp) : Option (UInt64 × Hp) :=
  if 0 ≤ (Op.cmpValue (FP.dcmp p0 FP.dconst0) CmpOp.g) then
    if ¬ (Op.cmpValue (FP.dcmp p0 FP.dconst0) CmpOp.l) = 0 then
      f_X9_size_22 p0 h
    else
      f_X9_size_22 FP.dconst0 h
  else
    f_X9_size_22 (FP.dneg p0) h
theorem mi_X9_size : ab_MI yX9_size cX9_size 2 (some .double) 1 := ⟨lc_yX9_size, lz_RX9, by decide, by decide, by decide +kernel⟩
set_option maxHeartbeats 4000000 in
set_option maxRecDepth 100000 in
theorem c_X9_size (l : Launch) (D : va_G) (cA : Nat → ClassId) (sz : Nat) {p0 : UInt64} {h hh : Hp} {rr : UInt64} (hF : f_X9_size p0 h = some (rr, hh)) : ab_C l D cA sz yX9_size cX9_size 2 (some .double) 0 0 0 [.double p0] h (some (.double rr)) hh := by
  refine Met.ofW (cc := cX9_size) (maxL := 2) (ret := (some .double)) (by decide) rfl ?_
  intro p e s m args below meth c s₁ B hml hv
  obtain ⟨rfl, hT, hR⟩ := hv
  have X : ab_X p s m _ meth c cX9_size 2 RX9 D cA sz := (ab_enter B hml hT hR).1
  have S := (ab_enter B hml hT hR).2
  have hr := B.returns
  obtain ⟨ls, hls, hl⟩ := ab_entry m [.double p0] 2 (lv := [(0, .double p0)]) (by simp [lg_sl, ab_cat, ab_cI, ab_cJ, ab_cD, ab_cF, ab_cA]) (by simp [lv_args, ab_cat, ab_cI, ab_cJ, ab_cD, ab_cF, ab_cA])
  rw [hls]
  have hl : lv_has ls 2 [(0, .double p0)] := hl
  unfold f_X9_size at hF
  show W p l e (ab_rm 0 0 0) s m _ below meth c s.heap [] 0 0 _ _
  refine lv_dload_n X.1 X.2.1 dX9_size_0 rfl (lv_at hl 0 rfl) ?_
  refine lv_dconst0 X.1 X.2.1 dX9_size_1 ?_
  refine lv_dcmp X.1 X.2.1 dX9_size_2 ?_
  refine lv_if_ge (tgt := 11) X.1 X.2.1 dX9_size_3 (by decide) (fun c1 => ?_) (fun c1 => ?_)
  · have hF := ab_pos c1 hF
    refine lv_dload_n X.1 X.2.1 dX9_size_11 rfl (lv_at hl 0 rfl) ?_
    refine lv_dconst0 X.1 X.2.1 dX9_size_12 ?_
    refine lv_dcmp X.1 X.2.1 dX9_size_13 ?_
    refine lv_if_ne (tgt := 21) X.1 X.2.1 dX9_size_14 (by decide) (fun c2 => ?_) (fun c2 => ?_)
    · have hF := ab_pos c2 hF
      refine lv_dload_n X.1 X.2.1 dX9_size_21 rfl (lv_at hl 0 rfl) ?_
      exact w_X9_size_22 X hr  S (lv_sub hl [] rfl) hF
    · have hF := ab_neg (fun q => q c2) hF
      refine lv_dconst0 X.1 X.2.1 dX9_size_17 ?_
      refine lv_goto (tgt := 22) X.1 X.2.1 dX9_size_18 (by decide) ?_
      exact w_X9_size_22 X hr  S (lv_sub hl [] rfl) hF
  · have hF := ab_neg c1 hF
    refine lv_dload_n X.1 X.2.1 dX9_size_6 rfl (lv_at hl 0 rfl) ?_
    refine lv_dneg X.1 X.2.1 dX9_size_7 ?_
    refine lv_goto (tgt := 22) X.1 X.2.1 dX9_size_8 (by decide) ?_
    exact w_X9_size_22 X hr  S (lv_sub hl [] rfl) hF
def f_X9_least_49  (u0 : UInt64) (h : Hp) : Option (UInt64 × Hp) :=
  some (u0, h)
set_option maxHeartbeats 4000000 in
set_option maxRecDepth 100000 in
theorem w_X9_least_49 {p : Program} {l : Launch} {e : Env} {s : State} {m : MethodId} {args : Array Value} {below : List Frame} {meth : Method} {c : Code} {D : va_G} {cA : Nat → ClassId} {sz : Nat} {rr : UInt64} {hh : Hp}  (X : ab_X p s m args meth c cX9_least 4 RX9 D cA sz) (hr : meth.sig.returnType = (some .double))  {H : Heap} {locs : List Loc} {ls : Array Slot} {u0 : UInt64} {h : Hp} (S : ab_H D cA sz h s H locs) (hl : lv_has ls 4 []) (hF : f_X9_least_49 u0 h = some (rr, hh)) : W p l e (ab_rm 0 0 0) s m args below meth c H locs 0 0 (MQ below (ab_Q D cA sz (some (.double rr)) hh) args s 0 0 (fun q => sz ≤ q)) (F0 m 49 ls [.double u0]) := by
  unfold f_X9_least_49 at hF
  exact ab_dret X S hr hF dX9_least_49
def f_X9_least_37  (u0 : UInt64) (h : Hp) : Option (UInt64 × Hp) :=
  some (u0, h)
set_option maxHeartbeats 4000000 in
set_option maxRecDepth 100000 in
theorem w_X9_least_37 {p : Program} {l : Launch} {e : Env} {s : State} {m : MethodId} {args : Array Value} {below : List Frame} {meth : Method} {c : Code} {D : va_G} {cA : Nat → ClassId} {sz : Nat} {rr : UInt64} {hh : Hp}  (X : ab_X p s m args meth c cX9_least 4 RX9 D cA sz) (hr : meth.sig.returnType = (some .double))  {H : Heap} {locs : List Loc} {ls : Array Slot} {u0 : UInt64} {h : Hp} (S : ab_H D cA sz h s H locs) (hl : lv_has ls 4 []) (hF : f_X9_least_37 u0 h = some (rr, hh)) : W p l e (ab_rm 0 0 0) s m args below meth c H locs 0 0 (MQ below (ab_Q D cA sz (some (.double rr)) hh) args s 0 0 (fun q => sz ≤ q)) (F0 m 37 ls [.double u0]) := by
  unfold f_X9_least_37 at hF
  exact ab_dret X S hr hF dX9_least_37
def f_X9_least (p0 : UInt64) (p1 : UInt64) (h : Hp) : Option (UInt64 × Hp) :=
  if (Op.cmpValue (FP.dcmp p0 p0) CmpOp.l) = 0 then
    if (Op.cmpValue (FP.dcmp p1 p1) CmpOp.l) = 0 then
      if ¬ (Op.cmpValue (FP.dcmp p0 p1) CmpOp.l) = 0 then
        if 0 ≤ (Op.cmpValue (FP.dcmp p0 p1) CmpOp.g) then
          f_X9_least_49 p1 h
        else
          f_X9_least_49 p0 h
      else
        (fop (FP.ddiv FP.dconst1 p0)).bind fun x5 =>
        (fop (FP.ddiv FP.dconst1 p1)).bind fun x6 =>
        if 0 ≤ (Op.cmpValue (FP.dcmp x5 x6) CmpOp.g) then
          f_X9_least_37 p1 h
        else
          f_X9_least_37 p0 h
    else
      some (p1, h)
  else
    some (p0, h)
theorem mi_X9_least : ab_MI yX9_least cX9_least 4 (some .double) 2 := ⟨lc_yX9_least, lz_RX9, by decide, by decide, by decide +kernel⟩
set_option maxHeartbeats 4000000 in
set_option maxRecDepth 100000 in
theorem c_X9_least (l : Launch) (D : va_G) (cA : Nat → ClassId) (sz : Nat) {p0 : UInt64} {p1 : UInt64} {h hh : Hp} {rr : UInt64} (hF : f_X9_least p0 p1 h = some (rr, hh)) : ab_C l D cA sz yX9_least cX9_least 4 (some .double) 0 0 0 [.double p0, .double p1] h (some (.double rr)) hh := by
  refine Met.ofW (cc := cX9_least) (maxL := 4) (ret := (some .double)) (by decide) rfl ?_
  intro p e s m args below meth c s₁ B hml hv
  obtain ⟨rfl, hT, hR⟩ := hv
  have X : ab_X p s m _ meth c cX9_least 4 RX9 D cA sz := (ab_enter B hml hT hR).1
  have S := (ab_enter B hml hT hR).2
  have hr := B.returns
  obtain ⟨ls, hls, hl⟩ := ab_entry m [.double p0, .double p1] 4 (lv := [(0, .double p0), (2, .double p1)]) (by simp [lg_sl, ab_cat, ab_cI, ab_cJ, ab_cD, ab_cF, ab_cA]) (by simp [lv_args, ab_cat, ab_cI, ab_cJ, ab_cD, ab_cF, ab_cA])
  rw [hls]
  have hl : lv_has ls 4 [(0, .double p0), (2, .double p1)] := hl
  unfold f_X9_least at hF
  show W p l e (ab_rm 0 0 0) s m _ below meth c s.heap [] 0 0 _ _
  refine lv_dload_n X.1 X.2.1 dX9_least_0 rfl (lv_at hl 0 rfl) ?_
  refine lv_dload_n X.1 X.2.1 dX9_least_1 rfl (lv_at hl 0 rfl) ?_
  refine lv_dcmp X.1 X.2.1 dX9_least_2 ?_
  refine lv_if_eq (tgt := 8) X.1 X.2.1 dX9_least_3 (by decide) (fun c1 => ?_) (fun c1 => ?_)
  · have hF := ab_pos c1 hF
    refine lv_dload_n X.1 X.2.1 dX9_least_8 rfl (lv_at hl 1 rfl) ?_
    refine lv_dload_n X.1 X.2.1 dX9_least_9 rfl (lv_at hl 1 rfl) ?_
    refine lv_dcmp X.1 X.2.1 dX9_least_10 ?_
    refine lv_if_eq (tgt := 16) X.1 X.2.1 dX9_least_11 (by decide) (fun c2 => ?_) (fun c2 => ?_)
    · have hF := ab_pos c2 hF
      refine lv_dload_n X.1 X.2.1 dX9_least_16 rfl (lv_at hl 0 rfl) ?_
      refine lv_dload_n X.1 X.2.1 dX9_least_17 rfl (lv_at hl 1 rfl) ?_
      refine lv_dcmp X.1 X.2.1 dX9_least_18 ?_
      refine lv_if_ne (tgt := 38) X.1 X.2.1 dX9_least_19 (by decide) (fun c3 => ?_) (fun c3 => ?_)
      · have hF := ab_pos c3 hF
        refine lv_dload_n X.1 X.2.1 dX9_least_38 rfl (lv_at hl 0 rfl) ?_
        refine lv_dload_n X.1 X.2.1 dX9_least_39 rfl (lv_at hl 1 rfl) ?_
        refine lv_dcmp X.1 X.2.1 dX9_least_40 ?_
        refine lv_if_ge (tgt := 48) X.1 X.2.1 dX9_least_41 (by decide) (fun c4 => ?_) (fun c4 => ?_)
        · have hF := ab_pos c4 hF
          refine lv_dload_n X.1 X.2.1 dX9_least_48 rfl (lv_at hl 1 rfl) ?_
          exact w_X9_least_49 X hr  S (lv_sub hl [] rfl) hF
        · have hF := ab_neg c4 hF
          refine lv_dload_n X.1 X.2.1 dX9_least_44 rfl (lv_at hl 0 rfl) ?_
          refine lv_goto (tgt := 49) X.1 X.2.1 dX9_least_45 (by decide) ?_
          exact w_X9_least_49 X hr  S (lv_sub hl [] rfl) hF
      · have hF := ab_neg (fun q => q c3) hF
        refine lv_dconst1 X.1 X.2.1 dX9_least_22 ?_
        refine lv_dload_n X.1 X.2.1 dX9_least_23 rfl (lv_at hl 0 rfl) ?_
        obtain ⟨x5, ev, ne, hF⟩ := ab_fopx hF
        refine lv_ddiv X.1 X.2.1 dX9_least_24 ne ?_
        rw [ev]
        refine lv_dconst1 X.1 X.2.1 dX9_least_25 ?_
        refine lv_dload_n X.1 X.2.1 dX9_least_26 rfl (lv_at hl 1 rfl) ?_
        obtain ⟨x6, ev, ne, hF⟩ := ab_fopx hF
        refine lv_ddiv X.1 X.2.1 dX9_least_27 ne ?_
        rw [ev]
        refine lv_dcmp X.1 X.2.1 dX9_least_28 ?_
        refine lv_if_ge (tgt := 36) X.1 X.2.1 dX9_least_29 (by decide) (fun c7 => ?_) (fun c7 => ?_)
        · have hF := ab_pos c7 hF
          refine lv_dload_n X.1 X.2.1 dX9_least_36 rfl (lv_at hl 1 rfl) ?_
          exact w_X9_least_37 X hr  S (lv_sub hl [] rfl) hF
        · have hF := ab_neg c7 hF
          refine lv_dload_n X.1 X.2.1 dX9_least_32 rfl (lv_at hl 0 rfl) ?_
          refine lv_goto (tgt := 37) X.1 X.2.1 dX9_least_33 (by decide) ?_
          exact w_X9_least_37 X hr  S (lv_sub hl [] rfl) hF
    · have hF := ab_neg c2 hF
      refine lv_dload_n X.1 X.2.1 dX9_least_14 rfl (lv_at hl 1 rfl) ?_
      exact ab_dret X S hr hF dX9_least_15
  · have hF := ab_neg c1 hF
    refine lv_dload_n X.1 X.2.1 dX9_least_6 rfl (lv_at hl 0 rfl) ?_
    exact ab_dret X S hr hF dX9_least_7
def f_X9_greatest_49  (u0 : UInt64) (h : Hp) : Option (UInt64 × Hp) :=
  some (u0, h)
set_option maxHeartbeats 4000000 in
set_option maxRecDepth 100000 in
theorem w_X9_greatest_49 {p : Program} {l : Launch} {e : Env} {s : State} {m : MethodId} {args : Array Value} {below : List Frame} {meth : Method} {c : Code} {D : va_G} {cA : Nat → ClassId} {sz : Nat} {rr : UInt64} {hh : Hp}  (X : ab_X p s m args meth c cX9_greatest 4 RX9 D cA sz) (hr : meth.sig.returnType = (some .double))  {H : Heap} {locs : List Loc} {ls : Array Slot} {u0 : UInt64} {h : Hp} (S : ab_H D cA sz h s H locs) (hl : lv_has ls 4 []) (hF : f_X9_greatest_49 u0 h = some (rr, hh)) : W p l e (ab_rm 0 0 0) s m args below meth c H locs 0 0 (MQ below (ab_Q D cA sz (some (.double rr)) hh) args s 0 0 (fun q => sz ≤ q)) (F0 m 49 ls [.double u0]) := by
  unfold f_X9_greatest_49 at hF
  exact ab_dret X S hr hF dX9_greatest_49
def f_X9_greatest_37  (u0 : UInt64) (h : Hp) : Option (UInt64 × Hp) :=
  some (u0, h)
set_option maxHeartbeats 4000000 in
set_option maxRecDepth 100000 in
theorem w_X9_greatest_37 {p : Program} {l : Launch} {e : Env} {s : State} {m : MethodId} {args : Array Value} {below : List Frame} {meth : Method} {c : Code} {D : va_G} {cA : Nat → ClassId} {sz : Nat} {rr : UInt64} {hh : Hp}  (X : ab_X p s m args meth c cX9_greatest 4 RX9 D cA sz) (hr : meth.sig.returnType = (some .double))  {H : Heap} {locs : List Loc} {ls : Array Slot} {u0 : UInt64} {h : Hp} (S : ab_H D cA sz h s H locs) (hl : lv_has ls 4 []) (hF : f_X9_greatest_37 u0 h = some (rr, hh)) : W p l e (ab_rm 0 0 0) s m args below meth c H locs 0 0 (MQ below (ab_Q D cA sz (some (.double rr)) hh) args s 0 0 (fun q => sz ≤ q)) (F0 m 37 ls [.double u0]) := by
  unfold f_X9_greatest_37 at hF
  exact ab_dret X S hr hF dX9_greatest_37
def f_X9_greatest (p0 : UInt64) (p1 : UInt64) (h : Hp) : Option (UInt64 × Hp) :=
  if (Op.cmpValue (FP.dcmp p0 p0) CmpOp.l) = 0 then
    if (Op.cmpValue (FP.dcmp p1 p1) CmpOp.l) = 0 then
      if ¬ (Op.cmpValue (FP.dcmp p0 p1) CmpOp.l) = 0 then
        if 0 ≤ (Op.cmpValue (FP.dcmp p0 p1) CmpOp.g) then
          f_X9_greatest_49 p0 h
        else
          f_X9_greatest_49 p1 h
      else
        (fop (FP.ddiv FP.dconst1 p0)).bind fun x5 =>
        (fop (FP.ddiv FP.dconst1 p1)).bind fun x6 =>
        if 0 ≤ (Op.cmpValue (FP.dcmp x5 x6) CmpOp.g) then
          f_X9_greatest_37 p0 h
        else
          f_X9_greatest_37 p1 h
    else
      some (p1, h)
  else
    some (p0, h)
theorem mi_X9_greatest : ab_MI yX9_greatest cX9_greatest 4 (some .double) 2 := ⟨lc_yX9_greatest, lz_RX9, by decide, by decide, by decide +kernel⟩
set_option maxHeartbeats 4000000 in
set_option maxRecDepth 100000 in
theorem c_X9_greatest (l : Launch) (D : va_G) (cA : Nat → ClassId) (sz : Nat) {p0 : UInt64} {p1 : UInt64} {h hh : Hp} {rr : UInt64} (hF : f_X9_greatest p0 p1 h = some (rr, hh)) : ab_C l D cA sz yX9_greatest cX9_greatest 4 (some .double) 0 0 0 [.double p0, .double p1] h (some (.double rr)) hh := by
  refine Met.ofW (cc := cX9_greatest) (maxL := 4) (ret := (some .double)) (by decide) rfl ?_
  intro p e s m args below meth c s₁ B hml hv
  obtain ⟨rfl, hT, hR⟩ := hv
  have X : ab_X p s m _ meth c cX9_greatest 4 RX9 D cA sz := (ab_enter B hml hT hR).1
  have S := (ab_enter B hml hT hR).2
  have hr := B.returns
  obtain ⟨ls, hls, hl⟩ := ab_entry m [.double p0, .double p1] 4 (lv := [(0, .double p0), (2, .double p1)]) (by simp [lg_sl, ab_cat, ab_cI, ab_cJ, ab_cD, ab_cF, ab_cA]) (by simp [lv_args, ab_cat, ab_cI, ab_cJ, ab_cD, ab_cF, ab_cA])
  rw [hls]
  have hl : lv_has ls 4 [(0, .double p0), (2, .double p1)] := hl
  unfold f_X9_greatest at hF
  show W p l e (ab_rm 0 0 0) s m _ below meth c s.heap [] 0 0 _ _
  refine lv_dload_n X.1 X.2.1 dX9_greatest_0 rfl (lv_at hl 0 rfl) ?_
  refine lv_dload_n X.1 X.2.1 dX9_greatest_1 rfl (lv_at hl 0 rfl) ?_
  refine lv_dcmp X.1 X.2.1 dX9_greatest_2 ?_
  refine lv_if_eq (tgt := 8) X.1 X.2.1 dX9_greatest_3 (by decide) (fun c1 => ?_) (fun c1 => ?_)
  · have hF := ab_pos c1 hF
    refine lv_dload_n X.1 X.2.1 dX9_greatest_8 rfl (lv_at hl 1 rfl) ?_
    refine lv_dload_n X.1 X.2.1 dX9_greatest_9 rfl (lv_at hl 1 rfl) ?_
    refine lv_dcmp X.1 X.2.1 dX9_greatest_10 ?_
    refine lv_if_eq (tgt := 16) X.1 X.2.1 dX9_greatest_11 (by decide) (fun c2 => ?_) (fun c2 => ?_)
    · have hF := ab_pos c2 hF
      refine lv_dload_n X.1 X.2.1 dX9_greatest_16 rfl (lv_at hl 0 rfl) ?_
      refine lv_dload_n X.1 X.2.1 dX9_greatest_17 rfl (lv_at hl 1 rfl) ?_
      refine lv_dcmp X.1 X.2.1 dX9_greatest_18 ?_
      refine lv_if_ne (tgt := 38) X.1 X.2.1 dX9_greatest_19 (by decide) (fun c3 => ?_) (fun c3 => ?_)
      · have hF := ab_pos c3 hF
        refine lv_dload_n X.1 X.2.1 dX9_greatest_38 rfl (lv_at hl 0 rfl) ?_
        refine lv_dload_n X.1 X.2.1 dX9_greatest_39 rfl (lv_at hl 1 rfl) ?_
        refine lv_dcmp X.1 X.2.1 dX9_greatest_40 ?_
        refine lv_if_ge (tgt := 48) X.1 X.2.1 dX9_greatest_41 (by decide) (fun c4 => ?_) (fun c4 => ?_)
        · have hF := ab_pos c4 hF
          refine lv_dload_n X.1 X.2.1 dX9_greatest_48 rfl (lv_at hl 0 rfl) ?_
          exact w_X9_greatest_49 X hr  S (lv_sub hl [] rfl) hF
        · have hF := ab_neg c4 hF
          refine lv_dload_n X.1 X.2.1 dX9_greatest_44 rfl (lv_at hl 1 rfl) ?_
          refine lv_goto (tgt := 49) X.1 X.2.1 dX9_greatest_45 (by decide) ?_
          exact w_X9_greatest_49 X hr  S (lv_sub hl [] rfl) hF
      · have hF := ab_neg (fun q => q c3) hF
        refine lv_dconst1 X.1 X.2.1 dX9_greatest_22 ?_
        refine lv_dload_n X.1 X.2.1 dX9_greatest_23 rfl (lv_at hl 0 rfl) ?_
        obtain ⟨x5, ev, ne, hF⟩ := ab_fopx hF
        refine lv_ddiv X.1 X.2.1 dX9_greatest_24 ne ?_
        rw [ev]
        refine lv_dconst1 X.1 X.2.1 dX9_greatest_25 ?_
        refine lv_dload_n X.1 X.2.1 dX9_greatest_26 rfl (lv_at hl 1 rfl) ?_
        obtain ⟨x6, ev, ne, hF⟩ := ab_fopx hF
        refine lv_ddiv X.1 X.2.1 dX9_greatest_27 ne ?_
        rw [ev]
        refine lv_dcmp X.1 X.2.1 dX9_greatest_28 ?_
        refine lv_if_ge (tgt := 36) X.1 X.2.1 dX9_greatest_29 (by decide) (fun c7 => ?_) (fun c7 => ?_)
        · have hF := ab_pos c7 hF
          refine lv_dload_n X.1 X.2.1 dX9_greatest_36 rfl (lv_at hl 0 rfl) ?_
          exact w_X9_greatest_37 X hr  S (lv_sub hl [] rfl) hF
        · have hF := ab_neg c7 hF
          refine lv_dload_n X.1 X.2.1 dX9_greatest_32 rfl (lv_at hl 1 rfl) ?_
          refine lv_goto (tgt := 37) X.1 X.2.1 dX9_greatest_33 (by decide) ?_
          exact w_X9_greatest_37 X hr  S (lv_sub hl [] rfl) hF
    · have hF := ab_neg c2 hF
      refine lv_dload_n X.1 X.2.1 dX9_greatest_14 rfl (lv_at hl 1 rfl) ?_
      exact ab_dret X S hr hF dX9_greatest_15
  · have hF := ab_neg c1 hF
    refine lv_dload_n X.1 X.2.1 dX9_greatest_6 rfl (lv_at hl 0 rfl) ?_
    exact ab_dret X S hr hF dX9_greatest_7
def f_X9_put_28  (u0 : UInt64) (h : Hp) : Option (UInt64 × Hp) :=
  some (u0, h)
set_option maxHeartbeats 4000000 in
set_option maxRecDepth 100000 in
theorem w_X9_put_28 {p : Program} {l : Launch} {e : Env} {s : State} {m : MethodId} {args : Array Value} {below : List Frame} {meth : Method} {c : Code} {D : va_G} {cA : Nat → ClassId} {sz : Nat} {rr : UInt64} {hh : Hp}  (X : ab_X p s m args meth c cX9_put 5 RX9 D cA sz) (hr : meth.sig.returnType = (some .double))  {H : Heap} {locs : List Loc} {ls : Array Slot} {u0 : UInt64} {h : Hp} (S : ab_H D cA sz h s H locs) (hl : lv_has ls 5 []) (hF : f_X9_put_28 u0 h = some (rr, hh)) : W p l e (ab_rm 1 0 0) s m args below meth c H locs 0 0 (MQ below (ab_Q D cA sz (some (.double rr)) hh) args s 0 0 (fun q => sz ≤ q)) (F0 m 28 ls [.double u0]) := by
  unfold f_X9_put_28 at hF
  exact ab_dret X S hr hF dX9_put_28
def f_X9_put_27  (v3 : UInt64) (h : Hp) : Option (UInt64 × Hp) :=
  f_X9_put_28 v3 h
set_option maxHeartbeats 4000000 in
set_option maxRecDepth 100000 in
theorem w_X9_put_27 {p : Program} {l : Launch} {e : Env} {s : State} {m : MethodId} {args : Array Value} {below : List Frame} {meth : Method} {c : Code} {D : va_G} {cA : Nat → ClassId} {sz : Nat} {rr : UInt64} {hh : Hp}  (X : ab_X p s m args meth c cX9_put 5 RX9 D cA sz) (hr : meth.sig.returnType = (some .double))  {H : Heap} {locs : List Loc} {ls : Array Slot} {v3 : UInt64} {h : Hp} (S : ab_H D cA sz h s H locs) (hl : lv_has ls 5 [(3, .double v3)]) (hF : f_X9_put_27 v3 h = some (rr, hh)) : W p l e (ab_rm 1 0 0) s m args below meth c H locs 0 0 (MQ below (ab_Q D cA sz (some (.double rr)) hh) args s 0 0 (fun q => sz ≤ q)) (F0 m 27 ls []) := by
  unfold f_X9_put_27 at hF
  refine lv_dload_n X.1 X.2.1 dX9_put_27 rfl (lv_at hl 0 rfl) ?_
  exact w_X9_put_28 X hr  S (lv_sub hl [] rfl) hF
def f_X9_put (this : Nat) (p0 : Int32) (p1 : Int32) (p2 : UInt64) (h : Hp) : Option (UInt64 × Hp) :=
  (getR h (some this) 9 1).bind fun x1 =>
  (aldI h x1 11 p0).bind fun x2 =>
  if ¬ ((x2 >>> (p1 &&& 31)) &&& 1) = 1 then
    f_X9_put_27 p2 h
  else
    bnd (f_X9_isNumber p2 h) fun x4 h5 =>
    if x4 = 0 then
      f_X9_put_27 p2 h5
    else
      (fop32 (FP.d2f p2)).bind fun x8 =>
      (fop (FP.f2d x8)).bind fun x9 =>
      f_X9_put_28 x9 h5
theorem mi_X9_put : ab_MI yX9_put cX9_put 5 (some .double) 3 := ⟨lc_yX9_put, lz_RX9, by decide, by decide, by decide +kernel⟩
set_option maxHeartbeats 4000000 in
set_option maxRecDepth 100000 in
theorem c_X9_put (l : Launch) (D : va_G) (cA : Nat → ClassId) (sz : Nat) {this : Nat} {p0 : Int32} {p1 : Int32} {p2 : UInt64} {h hh : Hp} {rr : UInt64} (hF : f_X9_put this p0 p1 p2 h = some (rr, hh)) : ab_C l D cA sz yX9_put cX9_put 5 (some .double) 1 0 0 [.ref this, .int p0, .int p1, .double p2] h (some (.double rr)) hh := by
  refine Met.ofW (cc := cX9_put) (maxL := 5) (ret := (some .double)) (by decide) rfl ?_
  intro p e s m args below meth c s₁ B hml hv
  obtain ⟨rfl, hT, hR⟩ := hv
  have X : ab_X p s m _ meth c cX9_put 5 RX9 D cA sz := (ab_enter B hml hT hR).1
  have S := (ab_enter B hml hT hR).2
  have hr := B.returns
  obtain ⟨ls, hls, hl⟩ := ab_entry m [.ref this, .int p0, .int p1, .double p2] 5 (lv := [(0, .ref this), (1, .int p0), (2, .int p1), (3, .double p2)]) (by simp [lg_sl, ab_cat, ab_cI, ab_cJ, ab_cD, ab_cF, ab_cA]) (by simp [lv_args, ab_cat, ab_cI, ab_cJ, ab_cD, ab_cF, ab_cA])
  rw [hls]
  have hl : lv_has ls 5 [(0, va_rf (some this)), (1, .int p0), (2, .int p1), (3, .double p2)] := hl
  unfold f_X9_put at hF
  show W p l e (ab_rm 1 0 0) s m _ below meth c s.heap [] 0 0 _ _
  refine ab_aload_n X dX9_put_0 rfl (lv_at hl 0 rfl) ?_
  refine ab_getR X S hF fi_9_1 lf_X9_15 dX9_put_1 (fun x1 hF => ?_)
  refine lv_iload_n X.1 X.2.1 dX9_put_4 rfl (lv_at hl 1 rfl) ?_
  refine ab_aldI X S hF dX9_put_5 (fun x2 hF => ?_)
  refine lv_iload_n X.1 X.2.1 dX9_put_6 rfl (lv_at hl 2 rfl) ?_
  refine lv_ishr X.1 X.2.1 dX9_put_7 ?_
  refine lv_iconst (v := 1) X.1 X.2.1 dX9_put_8 (by decide) ?_
  refine lv_iand X.1 X.2.1 dX9_put_9 ?_
  refine lv_iconst (v := 1) X.1 X.2.1 dX9_put_10 (by decide) ?_
  refine lv_icmp_ne (tgt := 27) X.1 X.2.1 dX9_put_11 (by decide) (fun c3 => ?_) (fun c3 => ?_)
  · have hF := ab_pos c3 hF
    exact w_X9_put_27 X hr  S (lv_sub hl [3] rfl) hF
  · have hF := ab_neg (fun q => q c3) hF
    refine lv_dload_n X.1 X.2.1 dX9_put_14 rfl (lv_at hl 3 rfl) ?_
    obtain ⟨x4, h5, e6, hF⟩ := bnd_out hF
    refine ab_callSi X S (c_X9_isNumber l D cA sz e6) mi_X9_isNumber lm_X9_189 lt_yX9_isNumber (As := [.double p2]) (rest := []) rfl ⟨by decide, by decide⟩ ⟨(by decide), (by decide)⟩ hl.1 rfl (by simp [ab_cat, ab_cI, ab_cJ, ab_cD, ab_cF]) dX9_put_15 (fun H1 locs1 S => ?_)
    refine lv_if_eq (tgt := 27) X.1 X.2.1 dX9_put_18 (by decide) (fun c7 => ?_) (fun c7 => ?_)
    · have hF := ab_pos c7 hF
      exact w_X9_put_27 X hr  S (lv_sub hl [3] rfl) hF
    · have hF := ab_neg c7 hF
      refine lv_dload_n X.1 X.2.1 dX9_put_21 rfl (lv_at hl 3 rfl) ?_
      obtain ⟨x8, ev, ne, hF⟩ := ab_fopx32 hF
      refine lv_d2f X.1 X.2.1 dX9_put_22 ne ?_
      rw [ev]
      obtain ⟨x9, ev, ne, hF⟩ := ab_fopx hF
      refine lv_f2d X.1 X.2.1 dX9_put_23 ne ?_
      rw [ev]
      refine lv_goto (tgt := 28) X.1 X.2.1 dX9_put_24 (by decide) ?_
      exact w_X9_put_28 X hr  S (lv_sub hl [] rfl) hF
def f_X9_signalAt_124  (v0 : Option Nat) (v6 : Int32) (h : Hp) : Option (UInt64 × Hp) :=
  (getR h v0 9 13).bind fun x1 =>
  (aldD h x1 v6).bind fun x2 =>
  some (x2, h)
set_option maxHeartbeats 4000000 in
set_option maxRecDepth 100000 in
theorem w_X9_signalAt_124 {p : Program} {l : Launch} {e : Env} {s : State} {m : MethodId} {args : Array Value} {below : List Frame} {meth : Method} {c : Code} {D : va_G} {cA : Nat → ClassId} {sz : Nat} {rr : UInt64} {hh : Hp}  (X : ab_X p s m args meth c cX9_signalAt 7 RX9 D cA sz) (hr : meth.sig.returnType = (some .double))  {H : Heap} {locs : List Loc} {ls : Array Slot} {v0 : Option Nat} {v6 : Int32} {h : Hp} (S : ab_H D cA sz h s H locs) (hl : lv_has ls 7 [(0, va_rf v0), (6, .int v6)]) (hF : f_X9_signalAt_124 v0 v6 h = some (rr, hh)) : W p l e (ab_rm 2 0 0) s m args below meth c H locs 0 0 (MQ below (ab_Q D cA sz (some (.double rr)) hh) args s 0 0 (fun q => sz ≤ q)) (F0 m 124 ls []) := by
  unfold f_X9_signalAt_124 at hF
  refine ab_aload_n X dX9_signalAt_124 rfl (lv_at hl 0 rfl) ?_
  refine ab_getR X S hF fi_9_13 lf_X9_49 dX9_signalAt_125 (fun x1 hF => ?_)
  refine lv_iload X.1 X.2.1 dX9_signalAt_128 (lv_at hl 1 rfl) ?_
  refine ab_aldD X S hF dX9_signalAt_130 (fun x2 hF => ?_)
  exact ab_dret X S hr hF dX9_signalAt_131
def f_X9_signalAt_83  : Nat → Option Nat → Int32 → UInt64 → Int32 → Hp → Option (UInt64 × Hp)
  | 0, _, _, _, _, _ => none
  | n + 1, v0, v1, v2, v6, h => (getR h v0 9 12).bind fun x1 =>
    (aldD h x1 (v6 + 1)).bind fun x2 =>
    if 0 < (Op.cmpValue (FP.dcmp x2 v2) CmpOp.g) then
      (getR h v0 9 10).bind fun x4 =>
      (aldI h x4 11 v1).bind fun x5 =>
      if x5 = 0 then
        f_X9_signalAt_124 v0 v6 h
      else
        (getR h v0 9 12).bind fun x7 =>
        (aldD h x7 v6).bind fun x8 =>
        if ¬ (Op.cmpValue (FP.dcmp x8 v2) CmpOp.l) = 0 then
          (getR h v0 9 13).bind fun x10 =>
          (aldD h x10 v6).bind fun x11 =>
          (getR h v0 9 13).bind fun x12 =>
          (aldD h x12 (v6 + 1)).bind fun x13 =>
          (getR h v0 9 13).bind fun x14 =>
          (aldD h x14 v6).bind fun x15 =>
          bnd (f_X9_less x13 x15 h) fun x16 h17 =>
          (getR h17 v0 9 12).bind fun x19 =>
          (aldD h17 x19 v6).bind fun x20 =>
          bnd (f_X9_less v2 x20 h17) fun x21 h22 =>
          (getR h22 v0 9 12).bind fun x24 =>
          (aldD h22 x24 (v6 + 1)).bind fun x25 =>
          (getR h22 v0 9 12).bind fun x26 =>
          (aldD h22 x26 v6).bind fun x27 =>
          bnd (f_X9_less x25 x27 h22) fun x28 h29 =>
          bnd (f_X9_by x21 x28 h29) fun x31 h32 =>
          bnd (f_X9_times x16 x31 h32) fun x34 h35 =>
          bnd (f_X9_plus x11 x34 h35) fun x37 h38 =>
          some (x37, h38)
        else
          f_X9_signalAt_124 v0 v6 h
    else
      f_X9_signalAt_83 n v0 v1 v2 (v6 + 1) h
set_option maxHeartbeats 4000000 in
set_option maxRecDepth 100000 in
theorem w_X9_signalAt_83 {p : Program} {l : Launch} {e : Env} {s : State} {m : MethodId} {args : Array Value} {below : List Frame} {meth : Method} {c : Code} {D : va_G} {cA : Nat → ClassId} {sz : Nat} {rr : UInt64} {hh : Hp}  (X : ab_X p s m args meth c cX9_signalAt 7 RX9 D cA sz) (hr : meth.sig.returnType = (some .double))  (n : Nat) : ∀ (v0 : Option Nat) (v1 : Int32) (v2 : UInt64) (v6 : Int32) (h : Hp) (H : Heap) (locs : List Loc) (ls : Array Slot), ab_H D cA sz h s H locs → lv_has ls 7 [(0, va_rf v0), (1, .int v1), (2, .double v2), (6, .int v6)] → f_X9_signalAt_83 n v0 v1 v2 v6 h = some (rr, hh) → W p l e (ab_rm 2 0 0) s m args below meth c H locs 0 0 (MQ below (ab_Q D cA sz (some (.double rr)) hh) args s 0 0 (fun q => sz ≤ q)) (F0 m 83 ls []) := by
  induction n with
  | zero => intro v0 v1 v2 v6 h H locs ls S hl hF; cases hF
  | succ n ih =>
    intro v0 v1 v2 v6 h H locs ls S hl hF
    rw [f_X9_signalAt_83] at hF
    refine ab_aload_n X dX9_signalAt_83 rfl (lv_at hl 0 rfl) ?_
    refine ab_getR X S hF fi_9_12 lf_X9_46 dX9_signalAt_84 (fun x1 hF => ?_)
    refine lv_iload X.1 X.2.1 dX9_signalAt_87 (lv_at hl 3 rfl) ?_
    refine lv_iconst (v := 1) X.1 X.2.1 dX9_signalAt_89 (by decide) ?_
    refine lv_iadd X.1 X.2.1 dX9_signalAt_90 ?_
    refine ab_aldD X S hF dX9_signalAt_91 (fun x2 hF => ?_)
    refine lv_dload_n X.1 X.2.1 dX9_signalAt_92 rfl (lv_at hl 2 rfl) ?_
    refine lv_dcmp X.1 X.2.1 dX9_signalAt_93 ?_
    refine lv_if_gt (tgt := 103) X.1 X.2.1 dX9_signalAt_94 (by decide) (fun c3 => ?_) (fun c3 => ?_)
    · have hF := ab_pos c3 hF
      refine ab_aload_n X dX9_signalAt_103 rfl (lv_at hl 0 rfl) ?_
      refine ab_getR X S hF fi_9_10 lf_X9_40 dX9_signalAt_104 (fun x4 hF => ?_)
      refine lv_iload_n X.1 X.2.1 dX9_signalAt_107 rfl (lv_at hl 1 rfl) ?_
      refine ab_aldI X S hF dX9_signalAt_108 (fun x5 hF => ?_)
      refine lv_if_eq (tgt := 124) X.1 X.2.1 dX9_signalAt_109 (by decide) (fun c6 => ?_) (fun c6 => ?_)
      · have hF := ab_pos c6 hF
        exact w_X9_signalAt_124 X hr  S (lv_sub hl [0, 3] rfl) hF
      · have hF := ab_neg c6 hF
        refine ab_aload_n X dX9_signalAt_112 rfl (lv_at hl 0 rfl) ?_
        refine ab_getR X S hF fi_9_12 lf_X9_46 dX9_signalAt_113 (fun x7 hF => ?_)
        refine lv_iload X.1 X.2.1 dX9_signalAt_116 (lv_at hl 3 rfl) ?_
        refine ab_aldD X S hF dX9_signalAt_118 (fun x8 hF => ?_)
        refine lv_dload_n X.1 X.2.1 dX9_signalAt_119 rfl (lv_at hl 2 rfl) ?_
        refine lv_dcmp X.1 X.2.1 dX9_signalAt_120 ?_
        refine lv_if_ne (tgt := 132) X.1 X.2.1 dX9_signalAt_121 (by decide) (fun c9 => ?_) (fun c9 => ?_)
        · have hF := ab_pos c9 hF
          refine ab_aload_n X dX9_signalAt_132 rfl (lv_at hl 0 rfl) ?_
          refine ab_getR X S hF fi_9_13 lf_X9_49 dX9_signalAt_133 (fun x10 hF => ?_)
          refine lv_iload X.1 X.2.1 dX9_signalAt_136 (lv_at hl 3 rfl) ?_
          refine ab_aldD X S hF dX9_signalAt_138 (fun x11 hF => ?_)
          refine ab_aload_n X dX9_signalAt_139 rfl (lv_at hl 0 rfl) ?_
          refine ab_getR X S hF fi_9_13 lf_X9_49 dX9_signalAt_140 (fun x12 hF => ?_)
          refine lv_iload X.1 X.2.1 dX9_signalAt_143 (lv_at hl 3 rfl) ?_
          refine lv_iconst (v := 1) X.1 X.2.1 dX9_signalAt_145 (by decide) ?_
          refine lv_iadd X.1 X.2.1 dX9_signalAt_146 ?_
          refine ab_aldD X S hF dX9_signalAt_147 (fun x13 hF => ?_)
          refine ab_aload_n X dX9_signalAt_148 rfl (lv_at hl 0 rfl) ?_
          refine ab_getR X S hF fi_9_13 lf_X9_49 dX9_signalAt_149 (fun x14 hF => ?_)
          refine lv_iload X.1 X.2.1 dX9_signalAt_152 (lv_at hl 3 rfl) ?_
          refine ab_aldD X S hF dX9_signalAt_154 (fun x15 hF => ?_)
          obtain ⟨x16, h17, e18, hF⟩ := bnd_out hF
          refine ab_callSd X S (c_X9_less l D cA sz e18) mi_X9_less lm_X9_204 lt_yX9_less (As := [.double x13, .double x15]) (rest := [.double x11]) rfl ⟨by decide, by decide⟩ ⟨(by decide), (by decide)⟩ hl.1 rfl (by simp [ab_cat, ab_cI, ab_cJ, ab_cD, ab_cF]) dX9_signalAt_155 (fun H1 locs1 S => ?_)
          refine lv_dload_n X.1 X.2.1 dX9_signalAt_158 rfl (lv_at hl 2 rfl) ?_
          refine ab_aload_n X dX9_signalAt_159 rfl (lv_at hl 0 rfl) ?_
          refine ab_getR X S hF fi_9_12 lf_X9_46 dX9_signalAt_160 (fun x19 hF => ?_)
          refine lv_iload X.1 X.2.1 dX9_signalAt_163 (lv_at hl 3 rfl) ?_
          refine ab_aldD X S hF dX9_signalAt_165 (fun x20 hF => ?_)
          obtain ⟨x21, h22, e23, hF⟩ := bnd_out hF
          refine ab_callSd X S (c_X9_less l D cA sz e23) mi_X9_less lm_X9_204 lt_yX9_less (As := [.double v2, .double x20]) (rest := [.double x16, .double x11]) rfl ⟨by decide, by decide⟩ ⟨(by decide), (by decide)⟩ hl.1 rfl (by simp [ab_cat, ab_cI, ab_cJ, ab_cD, ab_cF]) dX9_signalAt_166 (fun H1 locs1 S => ?_)
          refine ab_aload_n X dX9_signalAt_169 rfl (lv_at hl 0 rfl) ?_
          refine ab_getR X S hF fi_9_12 lf_X9_46 dX9_signalAt_170 (fun x24 hF => ?_)
          refine lv_iload X.1 X.2.1 dX9_signalAt_173 (lv_at hl 3 rfl) ?_
          refine lv_iconst (v := 1) X.1 X.2.1 dX9_signalAt_175 (by decide) ?_
          refine lv_iadd X.1 X.2.1 dX9_signalAt_176 ?_
          refine ab_aldD X S hF dX9_signalAt_177 (fun x25 hF => ?_)
          refine ab_aload_n X dX9_signalAt_178 rfl (lv_at hl 0 rfl) ?_
          refine ab_getR X S hF fi_9_12 lf_X9_46 dX9_signalAt_179 (fun x26 hF => ?_)
          refine lv_iload X.1 X.2.1 dX9_signalAt_182 (lv_at hl 3 rfl) ?_
          refine ab_aldD X S hF dX9_signalAt_184 (fun x27 hF => ?_)
          obtain ⟨x28, h29, e30, hF⟩ := bnd_out hF
          refine ab_callSd X S (c_X9_less l D cA sz e30) mi_X9_less lm_X9_204 lt_yX9_less (As := [.double x25, .double x27]) (rest := [.double x21, .double x16, .double x11]) rfl ⟨by decide, by decide⟩ ⟨(by decide), (by decide)⟩ hl.1 rfl (by simp [ab_cat, ab_cI, ab_cJ, ab_cD, ab_cF]) dX9_signalAt_185 (fun H1 locs1 S => ?_)
          obtain ⟨x31, h32, e33, hF⟩ := bnd_out hF
          refine ab_callSd X S (c_X9_by l D cA sz e33) mi_X9_by lm_X9_208 lt_yX9_by (As := [.double x21, .double x28]) (rest := [.double x16, .double x11]) rfl ⟨by decide, by decide⟩ ⟨(by decide), (by decide)⟩ hl.1 rfl (by simp [ab_cat, ab_cI, ab_cJ, ab_cD, ab_cF]) dX9_signalAt_188 (fun H1 locs1 S => ?_)
          obtain ⟨x34, h35, e36, hF⟩ := bnd_out hF
          refine ab_callSd X S (c_X9_times l D cA sz e36) mi_X9_times lm_X9_211 lt_yX9_times (As := [.double x16, .double x31]) (rest := [.double x11]) rfl ⟨by decide, by decide⟩ ⟨(by decide), (by decide)⟩ hl.1 rfl (by simp [ab_cat, ab_cI, ab_cJ, ab_cD, ab_cF]) dX9_signalAt_191 (fun H1 locs1 S => ?_)
          obtain ⟨x37, h38, e39, hF⟩ := bnd_out hF
          refine ab_callSd X S (c_X9_plus l D cA sz e39) mi_X9_plus lm_X9_214 lt_yX9_plus (As := [.double x11, .double x34]) (rest := []) rfl ⟨by decide, by decide⟩ ⟨(by decide), (by decide)⟩ hl.1 rfl (by simp [ab_cat, ab_cI, ab_cJ, ab_cD, ab_cF]) dX9_signalAt_194 (fun H1 locs1 S => ?_)
          exact ab_dret X S hr hF dX9_signalAt_197
        · have hF := ab_neg (fun q => q c9) hF
          exact w_X9_signalAt_124 X hr  S (lv_sub hl [0, 3] rfl) hF
    · have hF := ab_neg c3 hF
      refine lv_iinc (v := v6 + 1) (lv' := [(6, .int (v6 + 1)), (0, va_rf v0), (1, .int v1), (2, .double v2)]) X.1 X.2.1 dX9_signalAt_97 hl (k := 3) rfl (by rfl) (by decide) (by simp [ab_cat, ab_cI, ab_cJ, ab_cD, ab_cF]) (fun ls hl => ?_)
      refine lv_goto (tgt := 83) X.1 X.2.1 dX9_signalAt_100 (by decide) ?_
      exact ih _ _ _ _ _ _ _ _ S (lv_sub hl [1, 2, 3, 0] rfl) hF
def f_X9_signalAt (this : Nat) (p0 : Int32) (p1 : UInt64) (h : Hp) : Option (UInt64 × Hp) :=
  (getR h (some this) 9 11).bind fun x1 =>
  (aldI h x1 11 p0).bind fun x2 =>
  if ¬ x2 = 0 then
    if (Op.cmpValue (FP.dcmp p1 p1) CmpOp.l) = 0 then
      (getR h (some this) 9 12).bind fun x5 =>
      (aldD h x5 (16 * p0)).bind fun x6 =>
      if 0 < (Op.cmpValue (FP.dcmp p1 x6) CmpOp.g) then
        (getR h (some this) 9 12).bind fun x8 =>
        (aldD h x8 (((16 * p0) + x2) - 1)).bind fun x9 =>
        if (Op.cmpValue (FP.dcmp p1 x9) CmpOp.l) < 0 then
          f_X9_signalAt_83 fuelN (some this) p0 p1 (16 * p0) h
        else
          (getR h (some this) 9 13).bind fun x11 =>
          (aldD h x11 (((16 * p0) + x2) - 1)).bind fun x12 =>
          some (x12, h)
      else
        (getR h (some this) 9 13).bind fun x13 =>
        (aldD h x13 (16 * p0)).bind fun x14 =>
        some (x14, h)
    else
      some (p1, h)
  else
    some (FP.dconst0, h)
theorem mi_X9_signalAt : ab_MI yX9_signalAt cX9_signalAt 7 (some .double) 2 := ⟨lc_yX9_signalAt, lz_RX9, by decide, by decide, by decide +kernel⟩
set_option maxHeartbeats 4000000 in
set_option maxRecDepth 100000 in
theorem c_X9_signalAt (l : Launch) (D : va_G) (cA : Nat → ClassId) (sz : Nat) {this : Nat} {p0 : Int32} {p1 : UInt64} {h hh : Hp} {rr : UInt64} (hF : f_X9_signalAt this p0 p1 h = some (rr, hh)) : ab_C l D cA sz yX9_signalAt cX9_signalAt 7 (some .double) 2 0 0 [.ref this, .int p0, .double p1] h (some (.double rr)) hh := by
  refine Met.ofW (cc := cX9_signalAt) (maxL := 7) (ret := (some .double)) (by decide) rfl ?_
  intro p e s m args below meth c s₁ B hml hv
  obtain ⟨rfl, hT, hR⟩ := hv
  have X : ab_X p s m _ meth c cX9_signalAt 7 RX9 D cA sz := (ab_enter B hml hT hR).1
  have S := (ab_enter B hml hT hR).2
  have hr := B.returns
  obtain ⟨ls, hls, hl⟩ := ab_entry m [.ref this, .int p0, .double p1] 7 (lv := [(0, .ref this), (1, .int p0), (2, .double p1)]) (by simp [lg_sl, ab_cat, ab_cI, ab_cJ, ab_cD, ab_cF, ab_cA]) (by simp [lv_args, ab_cat, ab_cI, ab_cJ, ab_cD, ab_cF, ab_cA])
  rw [hls]
  have hl : lv_has ls 7 [(0, va_rf (some this)), (1, .int p0), (2, .double p1)] := hl
  unfold f_X9_signalAt at hF
  show W p l e (ab_rm 2 0 0) s m _ below meth c s.heap [] 0 0 _ _
  refine ab_aload_n X dX9_signalAt_0 rfl (lv_at hl 0 rfl) ?_
  refine ab_getR X S hF fi_9_11 lf_X9_43 dX9_signalAt_1 (fun x1 hF => ?_)
  refine lv_iload_n X.1 X.2.1 dX9_signalAt_4 rfl (lv_at hl 1 rfl) ?_
  refine ab_aldI X S hF dX9_signalAt_5 (fun x2 hF => ?_)
  refine lv_istore (lv' := [(4, .int x2), (0, va_rf (some this)), (1, .int p0), (2, .double p1)]) X.1 X.2.1 dX9_signalAt_6 hl (by decide) (by simp [ab_cat, ab_cI, ab_cJ, ab_cD, ab_cF]) (fun ls hl => ?_)
  refine lv_iload X.1 X.2.1 dX9_signalAt_8 (lv_at hl 0 rfl) ?_
  refine lv_if_ne (tgt := 15) X.1 X.2.1 dX9_signalAt_10 (by decide) (fun c3 => ?_) (fun c3 => ?_)
  · have hF := ab_pos c3 hF
    refine lv_dload_n X.1 X.2.1 dX9_signalAt_15 rfl (lv_at hl 3 rfl) ?_
    refine lv_dload_n X.1 X.2.1 dX9_signalAt_16 rfl (lv_at hl 3 rfl) ?_
    refine lv_dcmp X.1 X.2.1 dX9_signalAt_17 ?_
    refine lv_if_eq (tgt := 23) X.1 X.2.1 dX9_signalAt_18 (by decide) (fun c4 => ?_) (fun c4 => ?_)
    · have hF := ab_pos c4 hF
      refine lv_bipush (v := 16) X.1 X.2.1 dX9_signalAt_23 (by decide) ?_
      refine lv_iload_n X.1 X.2.1 dX9_signalAt_25 rfl (lv_at hl 2 rfl) ?_
      refine lv_imul X.1 X.2.1 dX9_signalAt_26 ?_
      refine lv_istore (lv' := [(5, .int (16 * p0)), (4, .int x2), (0, va_rf (some this)), (1, .int p0), (2, .double p1)]) X.1 X.2.1 dX9_signalAt_27 hl (by decide) (by simp [ab_cat, ab_cI, ab_cJ, ab_cD, ab_cF]) (fun ls hl => ?_)
      refine lv_dload_n X.1 X.2.1 dX9_signalAt_29 rfl (lv_at hl 4 rfl) ?_
      refine ab_aload_n X dX9_signalAt_30 rfl (lv_at hl 2 rfl) ?_
      refine ab_getR X S hF fi_9_12 lf_X9_46 dX9_signalAt_31 (fun x5 hF => ?_)
      refine lv_iload X.1 X.2.1 dX9_signalAt_34 (lv_at hl 0 rfl) ?_
      refine ab_aldD X S hF dX9_signalAt_36 (fun x6 hF => ?_)
      refine lv_dcmp X.1 X.2.1 dX9_signalAt_37 ?_
      refine lv_if_gt (tgt := 49) X.1 X.2.1 dX9_signalAt_38 (by decide) (fun c7 => ?_) (fun c7 => ?_)
      · have hF := ab_pos c7 hF
        refine lv_dload_n X.1 X.2.1 dX9_signalAt_49 rfl (lv_at hl 4 rfl) ?_
        refine ab_aload_n X dX9_signalAt_50 rfl (lv_at hl 2 rfl) ?_
        refine ab_getR X S hF fi_9_12 lf_X9_46 dX9_signalAt_51 (fun x8 hF => ?_)
        refine lv_iload X.1 X.2.1 dX9_signalAt_54 (lv_at hl 0 rfl) ?_
        refine lv_iload X.1 X.2.1 dX9_signalAt_56 (lv_at hl 1 rfl) ?_
        refine lv_iadd X.1 X.2.1 dX9_signalAt_58 ?_
        refine lv_iconst (v := 1) X.1 X.2.1 dX9_signalAt_59 (by decide) ?_
        refine lv_isub X.1 X.2.1 dX9_signalAt_60 ?_
        refine ab_aldD X S hF dX9_signalAt_61 (fun x9 hF => ?_)
        refine lv_dcmp X.1 X.2.1 dX9_signalAt_62 ?_
        refine lv_if_lt (tgt := 79) X.1 X.2.1 dX9_signalAt_63 (by decide) (fun c10 => ?_) (fun c10 => ?_)
        · have hF := ab_pos c10 hF
          refine lv_iload X.1 X.2.1 dX9_signalAt_79 (lv_at hl 0 rfl) ?_
          refine lv_istore (lv' := [(6, .int (16 * p0)), (5, .int (16 * p0)), (4, .int x2), (0, va_rf (some this)), (1, .int p0), (2, .double p1)]) X.1 X.2.1 dX9_signalAt_81 hl (by decide) (by simp [ab_cat, ab_cI, ab_cJ, ab_cD, ab_cF]) (fun ls hl => ?_)
          exact w_X9_signalAt_83 X hr  fuelN _ _ _ _ _ _ _ _ S (lv_sub hl [3, 4, 5, 0] rfl) hF
        · have hF := ab_neg c10 hF
          refine ab_aload_n X dX9_signalAt_66 rfl (lv_at hl 2 rfl) ?_
          refine ab_getR X S hF fi_9_13 lf_X9_49 dX9_signalAt_67 (fun x11 hF => ?_)
          refine lv_iload X.1 X.2.1 dX9_signalAt_70 (lv_at hl 0 rfl) ?_
          refine lv_iload X.1 X.2.1 dX9_signalAt_72 (lv_at hl 1 rfl) ?_
          refine lv_iadd X.1 X.2.1 dX9_signalAt_74 ?_
          refine lv_iconst (v := 1) X.1 X.2.1 dX9_signalAt_75 (by decide) ?_
          refine lv_isub X.1 X.2.1 dX9_signalAt_76 ?_
          refine ab_aldD X S hF dX9_signalAt_77 (fun x12 hF => ?_)
          exact ab_dret X S hr hF dX9_signalAt_78
      · have hF := ab_neg c7 hF
        refine ab_aload_n X dX9_signalAt_41 rfl (lv_at hl 2 rfl) ?_
        refine ab_getR X S hF fi_9_13 lf_X9_49 dX9_signalAt_42 (fun x13 hF => ?_)
        refine lv_iload X.1 X.2.1 dX9_signalAt_45 (lv_at hl 0 rfl) ?_
        refine ab_aldD X S hF dX9_signalAt_47 (fun x14 hF => ?_)
        exact ab_dret X S hr hF dX9_signalAt_48
    · have hF := ab_neg c4 hF
      refine lv_dload_n X.1 X.2.1 dX9_signalAt_21 rfl (lv_at hl 3 rfl) ?_
      exact ab_dret X S hr hF dX9_signalAt_22
  · have hF := ab_neg (fun q => q c3) hF
    refine lv_dconst0 X.1 X.2.1 dX9_signalAt_13 ?_
    exact ab_dret X S hr hF dX9_signalAt_14
