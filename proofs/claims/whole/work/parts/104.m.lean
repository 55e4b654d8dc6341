def f_X8_grown_66  (u0 : UInt64) (h : Hp) : Option (UInt64 × Hp) :=
  some (u0, h)
set_option maxHeartbeats 4000000 in
set_option maxRecDepth 100000 in
theorem w_X8_grown_66 {p : Program} {l : Launch} {e : Env} {s : State} {m : MethodId} {args : Array Value} {below : List Frame} {meth : Method} {c : Code} {D : va_G} {cA : Nat → ClassId} {sz : Nat} {rr : UInt64} {hh : Hp}  (X : ab_X p s m args meth c cX8_grown 6 RX8 D cA sz) (hr : meth.sig.returnType = (some .double))  {H : Heap} {locs : List Loc} {ls : Array Slot} {u0 : UInt64} {h : Hp} (S : ab_H D cA sz h s H locs) (hl : lv_has ls 6 []) (hF : f_X8_grown_66 u0 h = some (rr, hh)) : W p l e (ab_rm 0 0 0) s m args below meth c H locs 0 0 (MQ below (ab_Q D cA sz (some (.double rr)) hh) args s 0 0 (fun q => sz ≤ q)) (F0 m 66 ls [.double u0]) := by
  unfold f_X8_grown_66 at hF
  exact ab_dret X S hr hF dX8_grown_66
def f_X8_grown_36  (v4 : UInt64) (h : Hp) : Option (UInt64 × Hp) :=
  if (Op.cmpValue (FP.dcmp v4 4652218415073722368) CmpOp.l) ≤ 0 then
    if 0 ≤ (Op.cmpValue (FP.dcmp v4 13875590451928498176) CmpOp.g) then
      f_X8_grown_66 v4 h
    else
      f_X8_grown_66 13875590451928498176 h
  else
    some (4652218415073722368, h)
set_option maxHeartbeats 4000000 in
set_option maxRecDepth 100000 in
theorem w_X8_grown_36 {p : Program} {l : Launch} {e : Env} {s : State} {m : MethodId} {args : Array Value} {below : List Frame} {meth : Method} {c : Code} {D : va_G} {cA : Nat → ClassId} {sz : Nat} {rr : UInt64} {hh : Hp}  (X : ab_X p s m args meth c cX8_grown 6 RX8 D cA sz) (hr : meth.sig.returnType = (some .double))  {H : Heap} {locs : List Loc} {ls : Array Slot} {v4 : UInt64} {h : Hp} (S : ab_H D cA sz h s H locs) (hl : lv_has ls 6 [(4, .double v4)]) (hF : f_X8_grown_36 v4 h = some (rr, hh)) : W p l e (ab_rm 0 0 0) s m args below meth c H locs 0 0 (MQ below (ab_Q D cA sz (some (.double rr)) hh) args s 0 0 (fun q => sz ≤ q)) (F0 m 36 ls []) := by
  unfold f_X8_grown_36 at hF
  refine lv_dload X.1 X.2.1 dX8_grown_36 (lv_at hl 0 rfl) ?_
  refine lv_ldc2d (v := 4652218415073722368) X.1 X.2.1 X.2.2.2.1 (X.2.2.2.2.1 _ ld_X8_150) dX8_grown_38 ?_
  refine lv_dcmp X.1 X.2.1 dX8_grown_41 ?_
  refine lv_if_le (tgt := 49) X.1 X.2.1 dX8_grown_42 (by decide) (fun c1 => ?_) (fun c1 => ?_)
  · have hF := ab_pos c1 hF
    refine lv_dload X.1 X.2.1 dX8_grown_49 (lv_at hl 0 rfl) ?_
    refine lv_ldc2d (v := 13875590451928498176) X.1 X.2.1 X.2.2.2.1 (X.2.2.2.2.1 _ ld_X8_315) dX8_grown_51 ?_
    refine lv_dcmp X.1 X.2.1 dX8_grown_54 ?_
    refine lv_if_ge (tgt := 64) X.1 X.2.1 dX8_grown_55 (by decide) (fun c2 => ?_) (fun c2 => ?_)
    · have hF := ab_pos c2 hF
      refine lv_dload X.1 X.2.1 dX8_grown_64 (lv_at hl 0 rfl) ?_
      exact w_X8_grown_66 X hr  S (lv_sub hl [] rfl) hF
    · have hF := ab_neg c2 hF
      refine lv_ldc2d (v := 13875590451928498176) X.1 X.2.1 X.2.2.2.1 (X.2.2.2.2.1 _ ld_X8_315) dX8_grown_58 ?_
      refine lv_goto (tgt := 66) X.1 X.2.1 dX8_grown_61 (by decide) ?_
      exact w_X8_grown_66 X hr  S (lv_sub hl [] rfl) hF
  · have hF := ab_neg c1 hF
    refine lv_ldc2d (v := 4652218415073722368) X.1 X.2.1 X.2.2.2.1 (X.2.2.2.2.1 _ ld_X8_150) dX8_grown_45 ?_
    exact ab_dret X S hr hF dX8_grown_48
def f_X8_grown (p0 : UInt64) (p1 : UInt64) (h : Hp) : Option (UInt64 × Hp) :=
  if 0 < (Op.cmpValue (FP.dcmp p1 4580160821035794432) CmpOp.g) then
    if 0 < (Op.cmpValue (FP.dcmp p1 4593671619917905920) CmpOp.g) then
      f_X8_grown_36 p0 h
    else
      (fop (FP.dmul p0 4611686018427387904)).bind fun x3 =>
      f_X8_grown_36 x3 h
  else
    (fop (FP.dmul p0 4616189618054758400)).bind fun x4 =>
    f_X8_grown_36 x4 h
theorem mi_X8_grown : ab_MI yX8_grown cX8_grown 6 (some .double) 2 := ⟨lc_yX8_grown, lz_RX8, by decide, by decide, by decide +kernel⟩
set_option maxHeartbeats 4000000 in
set_option maxRecDepth 100000 in
theorem c_X8_grown (l : Launch) (D : va_G) (cA : Nat → ClassId) (sz : Nat) {p0 : UInt64} {p1 : UInt64} {h hh : Hp} {rr : UInt64} (hF : f_X8_grown p0 p1 h = some (rr, hh)) : ab_C l D cA sz yX8_grown cX8_grown 6 (some .double) 0 0 0 [.double p0, .double p1] h (some (.double rr)) hh := by
  refine Met.ofW (cc := cX8_grown) (maxL := 6) (ret := (some .double)) (by decide) rfl ?_
  intro p e s m args below meth c s₁ B hml hv
  obtain ⟨rfl, hT, hR⟩ := hv
  have X : ab_X p s m _ meth c cX8_grown 6 RX8 D cA sz := (ab_enter B hml hT hR).1
  have S := (ab_enter B hml hT hR).2
  have hr := B.returns
  obtain ⟨ls, hls, hl⟩ := ab_entry m [.double p0, .double p1] 6 (lv := [(0, .double p0), (2, .double p1)]) (by simp [lg_sl, ab_cat, ab_cI, ab_cJ, ab_cD, ab_cF, ab_cA]) (by simp [lv_args, ab_cat, ab_cI, ab_cJ, ab_cD, ab_cF, ab_cA])
  rw [hls]
  have hl : lv_has ls 6 [(0, .double p0), (2, .double p1)] := hl
  unfold f_X8_grown at hF
  show W p l e (ab_rm 0 0 0) s m _ below meth c s.heap [] 0 0 _ _
  refine lv_dload_n X.1 X.2.1 dX8_grown_0 rfl (lv_at hl 0 rfl) ?_
  refine lv_dstore (lv' := [(4, .double p0), (0, .double p0), (2, .double p1)]) X.1 X.2.1 dX8_grown_1 hl (by decide) (by simp [ab_cat, ab_cI, ab_cJ, ab_cD, ab_cF]) (fun ls hl => ?_)
  refine lv_dload_n X.1 X.2.1 dX8_grown_3 rfl (lv_at hl 2 rfl) ?_
  refine lv_ldc2d (v := 4580160821035794432) X.1 X.2.1 X.2.2.2.1 (X.2.2.2.2.1 _ ld_X8_311) dX8_grown_4 ?_
  refine lv_dcmp X.1 X.2.1 dX8_grown_7 ?_
  refine lv_if_gt (tgt := 21) X.1 X.2.1 dX8_grown_8 (by decide) (fun c1 => ?_) (fun c1 => ?_)
  · have hF := ab_pos c1 hF
    refine lv_dload_n X.1 X.2.1 dX8_grown_21 rfl (lv_at hl 2 rfl) ?_
    refine lv_ldc2d (v := 4593671619917905920) X.1 X.2.1 X.2.2.2.1 (X.2.2.2.2.1 _ ld_X8_313) dX8_grown_22 ?_
    refine lv_dcmp X.1 X.2.1 dX8_grown_25 ?_
    refine lv_if_gt (tgt := 36) X.1 X.2.1 dX8_grown_26 (by decide) (fun c2 => ?_) (fun c2 => ?_)
    · have hF := ab_pos c2 hF
      exact w_X8_grown_36 X hr  S (lv_sub hl [0] rfl) hF
    · have hF := ab_neg c2 hF
      refine lv_dload_n X.1 X.2.1 dX8_grown_29 rfl (lv_at hl 1 rfl) ?_
      refine lv_ldc2d (v := 4611686018427387904) X.1 X.2.1 X.2.2.2.1 (X.2.2.2.2.1 _ ld_X8_263) dX8_grown_30 ?_
      obtain ⟨x3, ev, ne, hF⟩ := ab_fopx hF
      refine lv_dmul X.1 X.2.1 dX8_grown_33 ne ?_
      rw [ev]
      refine lv_dstore (lv' := [(4, .double x3), (0, .double p0), (2, .double p1)]) X.1 X.2.1 dX8_grown_34 hl (by decide) (by simp [ab_cat, ab_cI, ab_cJ, ab_cD, ab_cF]) (fun ls hl => ?_)
      exact w_X8_grown_36 X hr  S (lv_sub hl [0] rfl) hF
  · have hF := ab_neg c1 hF
    refine lv_dload_n X.1 X.2.1 dX8_grown_11 rfl (lv_at hl 1 rfl) ?_
    refine lv_ldc2d (v := 4616189618054758400) X.1 X.2.1 X.2.2.2.1 (X.2.2.2.2.1 _ ld_X8_301) dX8_grown_12 ?_
    obtain ⟨x4, ev, ne, hF⟩ := ab_fopx hF
    refine lv_dmul X.1 X.2.1 dX8_grown_15 ne ?_
    rw [ev]
    refine lv_dstore (lv' := [(4, .double x4), (0, .double p0), (2, .double p1)]) X.1 X.2.1 dX8_grown_16 hl (by decide) (by simp [ab_cat, ab_cI, ab_cJ, ab_cD, ab_cF]) (fun ls hl => ?_)
    refine lv_goto (tgt := 36) X.1 X.2.1 dX8_grown_18 (by decide) ?_
    exact w_X8_grown_36 X hr  S (lv_sub hl [0] rfl) hF
def f_X9_in_15  (u0 : Int32) (h : Hp) : Option (Int32 × Hp) :=
  if u0 = 0 ∨ u0 = 1 then some (u0, h) else none
set_option maxHeartbeats 4000000 in
set_option maxRecDepth 100000 in
theorem w_X9_in_15 {p : Program} {l : Launch} {e : Env} {s : State} {m : MethodId} {args : Array Value} {below : List Frame} {meth : Method} {c : Code} {D : va_G} {cA : Nat → ClassId} {sz : Nat} {rr : Int32} {hh : Hp}  (X : ab_X p s m args meth c cX9_in 3 RX9 D cA sz) (hr : meth.sig.returnType = (some .boolean))  {H : Heap} {locs : List Loc} {ls : Array Slot} {u0 : Int32} {h : Hp} (S : ab_H D cA sz h s H locs) (hl : lv_has ls 3 []) (hF : f_X9_in_15 u0 h = some (rr, hh)) : W p l e (ab_rm 0 0 0) s m args below meth c H locs 0 0 (MQ below (ab_Q D cA sz (some (.int rr)) hh) args s 0 0 (fun q => sz ≤ q)) (F0 m 15 ls [.int u0]) := by
  unfold f_X9_in_15 at hF
  exact ab_zret X S hr hF dX9_in_15
def f_X9_in_14   (h : Hp) : Option (Int32 × Hp) :=
  f_X9_in_15 0 h
set_option maxHeartbeats 4000000 in
set_option maxRecDepth 100000 in
theorem w_X9_in_14 {p : Program} {l : Launch} {e : Env} {s : State} {m : MethodId} {args : Array Value} {below : List Frame} {meth : Method} {c : Code} {D : va_G} {cA : Nat → ClassId} {sz : Nat} {rr : Int32} {hh : Hp}  (X : ab_X p s m args meth c cX9_in 3 RX9 D cA sz) (hr : meth.sig.returnType = (some .boolean))  {H : Heap} {locs : List Loc} {ls : Array Slot}  {h : Hp} (S : ab_H D cA sz h s H locs) (hl : lv_has ls 3 []) (hF : f_X9_in_14  h = some (rr, hh)) : W p l e (ab_rm 0 0 0) s m args below meth c H locs 0 0 (MQ below (ab_Q D cA sz (some (.int rr)) hh) args s 0 0 (fun q => sz ≤ q)) (F0 m 14 ls []) := by
  unfold f_X9_in_14 at hF
  refine lv_iconst (v := 0) X.1 X.2.1 dX9_in_14 (by decide) ?_
  exact w_X9_in_15 X hr  S (lv_sub hl [] rfl) hF
def f_X9_in (p0 : Int32) (p1 : Int32) (p2 : Int32) (h : Hp) : Option (Int32 × Hp) :=
  if p0 < p1 then
    f_X9_in_14 h
  else
    if p2 < p0 then
      f_X9_in_14 h
    else
      f_X9_in_15 1 h
theorem mi_X9_in : ab_MI yX9_in cX9_in 3 (some .boolean) 3 := ⟨lc_yX9_in, lz_RX9, by decide, by decide, by decide +kernel⟩
set_option maxHeartbeats 4000000 in
set_option maxRecDepth 100000 in
theorem c_X9_in (l : Launch) (D : va_G) (cA : Nat → ClassId) (sz : Nat) {p0 : Int32} {p1 : Int32} {p2 : Int32} {h hh : Hp} {rr : Int32} (hF : f_X9_in p0 p1 p2 h = some (rr, hh)) : ab_C l D cA sz yX9_in cX9_in 3 (some .boolean) 0 0 0 [.int p0, .int p1, .int p2] h (some (.int rr)) hh := by
  refine Met.ofW (cc := cX9_in) (maxL := 3) (ret := (some .boolean)) (by decide) rfl ?_
  intro p e s m args below meth c s₁ B hml hv
  obtain ⟨rfl, hT, hR⟩ := hv
  have X : ab_X p s m _ meth c cX9_in 3 RX9 D cA sz := (ab_enter B hml hT hR).1
  have S := (ab_enter B hml hT hR).2
  have hr := B.returns
  obtain ⟨ls, hls, hl⟩ := ab_entry m [.int p0, .int p1, .int p2] 3 (lv := [(0, .int p0), (1, .int p1), (2, .int p2)]) (by simp [lg_sl, ab_cat, ab_cI, ab_cJ, ab_cD, ab_cF, ab_cA]) (by simp [lv_args, ab_cat, ab_cI, ab_cJ, ab_cD, ab_cF, ab_cA])
  rw [hls]
  have hl : lv_has ls 3 [(0, .int p0), (1, .int p1), (2, .int p2)] := hl
  unfold f_X9_in at hF
  show W p l e (ab_rm 0 0 0) s m _ below meth c s.heap [] 0 0 _ _
  refine lv_iload_n X.1 X.2.1 dX9_in_0 rfl (lv_at hl 0 rfl) ?_
  refine lv_iload_n X.1 X.2.1 dX9_in_1 rfl (lv_at hl 1 rfl) ?_
  refine lv_icmp_lt (tgt := 14) X.1 X.2.1 dX9_in_2 (by decide) (fun c1 => ?_) (fun c1 => ?_)
  · have hF := ab_pos c1 hF
    exact w_X9_in_14 X hr  S (lv_sub hl [] rfl) hF
  · have hF := ab_neg c1 hF
    refine lv_iload_n X.1 X.2.1 dX9_in_5 rfl (lv_at hl 0 rfl) ?_
    refine lv_iload_n X.1 X.2.1 dX9_in_6 rfl (lv_at hl 2 rfl) ?_
    refine lv_icmp_gt (tgt := 14) X.1 X.2.1 dX9_in_7 (by decide) (fun c2 => ?_) (fun c2 => ?_)
    · have hF := ab_pos c2 hF
      exact w_X9_in_14 X hr  S (lv_sub hl [] rfl) hF
    · have hF := ab_neg c2 hF
      refine lv_iconst (v := 1) X.1 X.2.1 dX9_in_10 (by decide) ?_
      refine lv_goto (tgt := 15) X.1 X.2.1 dX9_in_11 (by decide) ?_
      exact w_X9_in_15 X hr  S (lv_sub hl [] rfl) hF
def f_X9_number (p0 : Int64) (p1 : Int32) (h : Hp) : Option (UInt64 × Hp) :=
  (fop (FP.ddiv (FP.l2d p0) (FP.l2d (1 <<< (p1.toInt64 &&& 63))))).bind fun x1 =>
  some (x1, h)
theorem mi_X9_number : ab_MI yX9_number cX9_number 3 (some .double) 2 := ⟨lc_yX9_number, lz_RX9, by decide, by decide, by decide +kernel⟩
set_option maxHeartbeats 4000000 in
set_option maxRecDepth 100000 in
theorem c_X9_number (l : Launch) (D : va_G) (cA : Nat → ClassId) (sz : Nat) {p0 : Int64} {p1 : Int32} {h hh : Hp} {rr : UInt64} (hF : f_X9_number p0 p1 h = some (rr, hh)) : ab_C l D cA sz yX9_number cX9_number 3 (some .double) 0 0 0 [.long p0, .int p1] h (some (.double rr)) hh := by
  refine Met.ofW (cc := cX9_number) (maxL := 3) (ret := (some .double)) (by decide) rfl ?_
  intro p e s m args below meth c s₁ B hml hv
  obtain ⟨rfl, hT, hR⟩ := hv
  have X : ab_X p s m _ meth c cX9_number 3 RX9 D cA sz := (ab_enter B hml hT hR).1
  have S := (ab_enter B hml hT hR).2
  have hr := B.returns
  obtain ⟨ls, hls, hl⟩ := ab_entry m [.long p0, .int p1] 3 (lv := [(0, .long p0), (2, .int p1)]) (by simp [lg_sl, ab_cat, ab_cI, ab_cJ, ab_cD, ab_cF, ab_cA]) (by simp [lv_args, ab_cat, ab_cI, ab_cJ, ab_cD, ab_cF, ab_cA])
  rw [hls]
  have hl : lv_has ls 3 [(0, .long p0), (2, .int p1)] := hl
  unfold f_X9_number at hF
  show W p l e (ab_rm 0 0 0) s m _ below meth c s.heap [] 0 0 _ _
  refine lv_lload_n X.1 X.2.1 dX9_number_0 rfl (lv_at hl 0 rfl) ?_
  refine lv_l2d X.1 X.2.1 dX9_number_1 ?_
  refine lv_lconst (v := 1) X.1 X.2.1 dX9_number_2 (by decide) ?_
  refine lv_iload_n X.1 X.2.1 dX9_number_3 rfl (lv_at hl 1 rfl) ?_
  refine lv_lshl (v := 1 <<< (p1.toInt64 &&& 63)) X.1 X.2.1 dX9_number_4 rfl ?_
  refine lv_l2d X.1 X.2.1 dX9_number_5 ?_
  obtain ⟨x1, ev, ne, hF⟩ := ab_fopx hF
  refine lv_ddiv X.1 X.2.1 dX9_number_6 ne ?_
  rw [ev]
  exact ab_dret X S hr hF dX9_number_7
def f_X9_isFinite_21  (u0 : Int32) (h : Hp) : Option (Int32 × Hp) :=
  if u0 = 0 ∨ u0 = 1 then some (u0, h) else none
set_option maxHeartbeats 4000000 in
set_option maxRecDepth 100000 in
theorem w_X9_isFinite_21 {p : Program} {l : Launch} {e : Env} {s : State} {m : MethodId} {args : Array Value} {below : List Frame} {meth : Method} {c : Code} {D : va_G} {cA : Nat → ClassId} {sz : Nat} {rr : Int32} {hh : Hp}  (X : ab_X p s m args meth c cX9_isFinite 2 RX9 D cA sz) (hr : meth.sig.returnType = (some .boolean))  {H : Heap} {locs : List Loc} {ls : Array Slot} {u0 : Int32} {h : Hp} (S : ab_H D cA sz h s H locs) (hl : lv_has ls 2 []) (hF : f_X9_isFinite_21 u0 h = some (rr, hh)) : W p l e (ab_rm 0 0 0) s m args below meth c H locs 0 0 (MQ below (ab_Q D cA sz (some (.int rr)) hh) args s 0 0 (fun q => sz ≤ q)) (F0 m 21 ls [.int u0]) := by
  unfold f_X9_isFinite_21 at hF
  exact ab_zret X S hr hF dX9_isFinite_21
def f_X9_isFinite_20   (h : Hp) : Option (Int32 × Hp) :=
  f_X9_isFinite_21 0 h
set_option maxHeartbeats 4000000 in
set_option maxRecDepth 100000 in
theorem w_X9_isFinite_20 {p : Program} {l : Launch} {e : Env} {s : State} {m : MethodId} {args : Array Value} {below : List Frame} {meth : Method} {c : Code} {D : va_G} {cA : Nat → ClassId} {sz : Nat} {rr : Int32} {hh : Hp}  (X : ab_X p s m args meth c cX9_isFinite 2 RX9 D cA sz) (hr : meth.sig.returnType = (some .boolean))  {H : Heap} {locs : List Loc} {ls : Array Slot}  {h : Hp} (S : ab_H D cA sz h s H locs) (hl : lv_has ls 2 []) (hF : f_X9_isFinite_20  h = some (rr, hh)) : W p l e (ab_rm 0 0 0) s m args below meth c H locs 0 0 (MQ below (ab_Q D cA sz (some (.int rr)) hh) args s 0 0 (fun q => sz ≤ q)) (F0 m 20 ls []) := by
  unfold f_X9_isFinite_20 at hF
  refine lv_iconst (v := 0) X.1 X.2.1 dX9_isFinite_20 (by decide) ?_
  exact w_X9_isFinite_21 X hr  S (lv_sub hl [] rfl) hF
def f_X9_isFinite (p0 : UInt64) (h : Hp) : Option (Int32 × Hp) :=
  if (Op.cmpValue (FP.dcmp p0 18442240474082181119) CmpOp.l) < 0 then
    f_X9_isFinite_20 h
  else
    if 0 < (Op.cmpValue (FP.dcmp p0 9218868437227405311) CmpOp.g) then
      f_X9_isFinite_20 h
    else
      f_X9_isFinite_21 1 h
theorem mi_X9_isFinite : ab_MI yX9_isFinite cX9_isFinite 2 (some .boolean) 1 := ⟨lc_yX9_isFinite, lz_RX9, by decide, by decide, by decide +kernel⟩
set_option maxHeartbeats 4000000 in
set_option maxRecDepth 100000 in
theorem c_X9_isFinite (l : Launch) (D : va_G) (cA : Nat → ClassId) (sz : Nat) {p0 : UInt64} {h hh : Hp} {rr : Int32} (hF : f_X9_isFinite p0 h = some (rr, hh)) : ab_C l D cA sz yX9_isFinite cX9_isFinite 2 (some .boolean) 0 0 0 [.double p0] h (some (.int rr)) hh := by
  refine Met.ofW (cc := cX9_isFinite) (maxL := 2) (ret := (some .boolean)) (by decide) rfl ?_
  intro p e s m args below meth c s₁ B hml hv
  obtain ⟨rfl, hT, hR⟩ := hv
  have X : ab_X p s m _ meth c cX9_isFinite 2 RX9 D cA sz := (ab_enter B hml hT hR).1
  have S := (ab_enter B hml hT hR).2
  have hr := B.returns
  obtain ⟨ls, hls, hl⟩ := ab_entry m [.double p0] 2 (lv := [(0, .double p0)]) (by simp [lg_sl, ab_cat, ab_cI, ab_cJ, ab_cD, ab_cF, ab_cA]) (by simp [lv_args, ab_cat, ab_cI, ab_cJ, ab_cD, ab_cF, ab_cA])
  rw [hls]
  have hl : lv_has ls 2 [(0, .double p0)] := hl
  unfold f_X9_isFinite at hF
  show W p l e (ab_rm 0 0 0) s m _ below meth c s.heap [] 0 0 _ _
  refine lv_dload_n X.1 X.2.1 dX9_isFinite_0 rfl (lv_at hl 0 rfl) ?_
  refine lv_ldc2d (v := 18442240474082181119) X.1 X.2.1 X.2.2.2.1 (X.2.2.2.2.1 _ ld_X9_185) dX9_isFinite_1 ?_
  refine lv_dcmp X.1 X.2.1 dX9_isFinite_4 ?_
  refine lv_if_lt (tgt := 20) X.1 X.2.1 dX9_isFinite_5 (by decide) (fun c1 => ?_) (fun c1 => ?_)
  · have hF := ab_pos c1 hF
    exact w_X9_isFinite_20 X hr  S (lv_sub hl [] rfl) hF
  · have hF := ab_neg c1 hF
    refine lv_dload_n X.1 X.2.1 dX9_isFinite_8 rfl (lv_at hl 0 rfl) ?_
    refine lv_ldc2d (v := 9218868437227405311) X.1 X.2.1 X.2.2.2.1 (X.2.2.2.2.1 _ ld_X9_187) dX9_isFinite_9 ?_
    refine lv_dcmp X.1 X.2.1 dX9_isFinite_12 ?_
    refine lv_if_gt (tgt := 20) X.1 X.2.1 dX9_isFinite_13 (by decide) (fun c2 => ?_) (fun c2 => ?_)
    · have hF := ab_pos c2 hF
      exact w_X9_isFinite_20 X hr  S (lv_sub hl [] rfl) hF
    · have hF := ab_neg c2 hF
      refine lv_iconst (v := 1) X.1 X.2.1 dX9_isFinite_16 (by decide) ?_
      refine lv_goto (tgt := 21) X.1 X.2.1 dX9_isFinite_17 (by decide) ?_
      exact w_X9_isFinite_21 X hr  S (lv_sub hl [] rfl) hF
def f_X9_isNumber_11  (u0 : Int32) (h : Hp) : Option (Int32 × Hp) :=
  if u0 = 0 ∨ u0 = 1 then some (u0, h) else none
set_option maxHeartbeats 4000000 in
set_option maxRecDepth 100000 in
theorem w_X9_isNumber_11 {p : Program} {l : Launch} {e : Env} {s : State} {m : MethodId} {args : Array Value} {below : List Frame} {meth : Method} {c : Code} {D : va_G} {cA : Nat → ClassId} {sz : Nat} {rr : Int32} {hh : Hp}  (X : ab_X p s m args meth c cX9_isNumber 2 RX9 D cA sz) (hr : meth.sig.returnType = (some .boolean))  {H : Heap} {locs : List Loc} {ls : Array Slot} {u0 : Int32} {h : Hp} (S : ab_H D cA sz h s H locs) (hl : lv_has ls 2 []) (hF : f_X9_isNumber_11 u0 h = some (rr, hh)) : W p l e (ab_rm 0 0 0) s m args below meth c H locs 0 0 (MQ below (ab_Q D cA sz (some (.int rr)) hh) args s 0 0 (fun q => sz ≤ q)) (F0 m 11 ls [.int u0]) := by
  unfold f_X9_isNumber_11 at hF
  exact ab_zret X S hr hF dX9_isNumber_11
def f_X9_isNumber (p0 : UInt64) (h : Hp) : Option (Int32 × Hp) :=
  if ¬ (Op.cmpValue (FP.dcmp p0 p0) CmpOp.l) = 0 then
    f_X9_isNumber_11 0 h
  else
    f_X9_isNumber_11 1 h
theorem mi_X9_isNumber : ab_MI yX9_isNumber cX9_isNumber 2 (some .boolean) 1 := ⟨lc_yX9_isNumber, lz_RX9, by decide, by decide, by decide +kernel⟩
set_option maxHeartbeats 4000000 in
set_option maxRecDepth 100000 in
theorem c_X9_isNumber (l : Launch) (D : va_G) (cA : Nat → ClassId) (sz : Nat) {p0 : UInt64} {h hh : Hp} {rr : Int32} (hF : f_X9_isNumber p0 h = some (rr, hh)) : ab_C l D cA sz yX9_isNumber cX9_isNumber 2 (some .boolean) 0 0 0 [.double p0] h (some (.int rr)) hh := by
  refine Met.ofW (cc := cX9_isNumber) (maxL := 2) (ret := (some .boolean)) (by decide) rfl ?_
  intro p e s m args below meth c s₁ B hml hv
  obtain ⟨rfl, hT, hR⟩ := hv
  have X : ab_X p s m _ meth c cX9_isNumber 2 RX9 D cA sz := (ab_enter B hml hT hR).1
  have S := (ab_enter B hml hT hR).2
  have hr := B.returns
  obtain ⟨ls, hls, hl⟩ := ab_entry m [.double p0] 2 (lv := [(0, .double p0)]) (by simp [lg_sl, ab_cat, ab_cI, ab_cJ, ab_cD, ab_cF, ab_cA]) (by simp [lv_args, ab_cat, ab_cI, ab_cJ, ab_cD, ab_cF, ab_cA])
  rw [hls]
  have hl : lv_has ls 2 [(0, .double p0)] := hl
  unfold f_X9_isNumber at hF
  show W p l e (ab_rm 0 0 0) s m _ below meth c s.heap [] 0 0 _ _
  refine lv_dload_n X.1 X.2.1 dX9_isNumber_0 rfl (lv_at hl 0 rfl) ?_
  refine lv_dload_n X.1 X.2.1 dX9_isNumber_1 rfl (lv_at hl 0 rfl) ?_
  refine lv_dcmp X.1 X.2.1 dX9_isNumber_2 ?_
  refine lv_if_ne (tgt := 10) X.1 X.2.1 dX9_isNumber_3 (by decide) (fun c1 => ?_) (fun c1 => ?_)
  · have hF := ab_pos c1 hF
    refine lv_iconst (v := 0) X.1 X.2.1 dX9_isNumber_10 (by decide) ?_
    exact w_X9_isNumber_11 X hr  S (lv_sub hl [] rfl) hF
  · have hF := ab_neg (fun q => q c1) hF
    refine lv_iconst (v := 1) X.1 X.2.1 dX9_isNumber_6 (by decide) ?_
    refine lv_goto (tgt := 11) X.1 X.2.1 dX9_isNumber_7 (by decide) ?_
    exact w_X9_isNumber_11 X hr  S (lv_sub hl [] rfl) hF
def f_X9_plus_55  (u0 : UInt64) (h : Hp) : Option (UInt64 × Hp) :=
  some (u0, h)
set_option maxHeartbeats 4000000 in
set_option maxRecDepth 100000 in
theorem w_X9_plus_55 {p : Program} {l : Launch} {e : Env} {s : State} {m : MethodId} {args : Array Value} {below : List Frame} {meth : Method} {c : Code} {D : va_G} {cA : Nat → ClassId} {sz : Nat} {rr : UInt64} {hh : Hp}  (X : ab_X p s m args meth c cX9_plus 5 RX9 D cA sz) (hr : meth.sig.returnType = (some .double))  {H : Heap} {locs : List Loc} {ls : Array Slot} {u0 : UInt64} {h : Hp} (S : ab_H D cA sz h s H locs) (hl : lv_has ls 5 []) (hF : f_X9_plus_55 u0 h = some (rr, hh)) : W p l e (ab_rm 1 0 0) s m args below meth c H locs 0 0 (MQ below (ab_Q D cA sz (some (.double rr)) hh) args s 0 0 (fun q => sz ≤ q)) (F0 m 55 ls [.double u0]) := by
  unfold f_X9_plus_55 at hF
  exact ab_dret X S hr hF dX9_plus_55
def f_X9_plus_39  (v0 : UInt64) (v2 : UInt64) (u0 : Int32) (h : Hp) : Option (UInt64 × Hp) :=
  if u0 = 0 then
    (fop (FP.dadd v0 v2)).bind fun x2 =>
    f_X9_plus_55 x2 h
  else
    f_X9_plus_55 9221120237041090560 h
set_option maxHeartbeats 4000000 in
set_option maxRecDepth 100000 in
theorem w_X9_plus_39 {p : Program} {l : Launch} {e : Env} {s : State} {m : MethodId} {args : Array Value} {below : List Frame} {meth : Method} {c : Code} {D : va_G} {cA : Nat → ClassId} {sz : Nat} {rr : UInt64} {hh : Hp}  (X : ab_X p s m args meth c cX9_plus 5 RX9 D cA sz) (hr : meth.sig.returnType = (some .double))  {H : Heap} {locs : List Loc} {ls : Array Slot} {v0 : UInt64} {v2 : UInt64} {u0 : Int32} {h : Hp} (S : ab_H D cA sz h s H locs) (hl : lv_has ls 5 [(0, .double v0), (2, .double v2)]) (hF : f_X9_plus_39 v0 v2 u0 h = some (rr, hh)) : W p l e (ab_rm 1 0 0) s m args below meth c H locs 0 0 (MQ below (ab_Q D cA sz (some (.double rr)) hh) args s 0 0 (fun q => sz ≤ q)) (F0 m 39 ls [.int u0]) := by
  unfold f_X9_plus_39 at hF
  refine lv_istore (lv' := [(4, .int u0), (0, .double v0), (2, .double v2)]) X.1 X.2.1 dX9_plus_39 hl (by decide) (by simp [ab_cat, ab_cI, ab_cJ, ab_cD, ab_cF]) (fun ls hl => ?_)
  refine lv_iload X.1 X.2.1 dX9_plus_41 (lv_at hl 0 rfl) ?_
  refine lv_if_eq (tgt := 52) X.1 X.2.1 dX9_plus_43 (by decide) (fun c1 => ?_) (fun c1 => ?_)
  · have hF := ab_pos c1 hF
    refine lv_dload_n X.1 X.2.1 dX9_plus_52 rfl (lv_at hl 1 rfl) ?_
    refine lv_dload_n X.1 X.2.1 dX9_plus_53 rfl (lv_at hl 2 rfl) ?_
    obtain ⟨x2, ev, ne, hF⟩ := ab_fopx hF
    refine lv_dadd X.1 X.2.1 dX9_plus_54 ne ?_
    rw [ev]
    exact w_X9_plus_55 X hr  S (lv_sub hl [] rfl) hF
  · have hF := ab_neg c1 hF
    refine lv_ldc2d (v := 9221120237041090560) X.1 X.2.1 X.2.2.2.1 (X.2.2.2.2.1 _ ld_X9_196) dX9_plus_46 ?_
    refine lv_goto (tgt := 55) X.1 X.2.1 dX9_plus_49 (by decide) ?_
    exact w_X9_plus_55 X hr  S (lv_sub hl [] rfl) hF
def f_X9_plus_34  (v0 : UInt64) (v2 : UInt64) (h : Hp) : Option (UInt64 × Hp) :=
  f_X9_plus_39 v0 v2 1 h
set_option maxHeartbeats 4000000 in
set_option maxRecDepth 100000 in
theorem w_X9_plus_34 {p : Program} {l : Launch} {e : Env} {s : State} {m : MethodId} {args : Array Value} {below : List Frame} {meth : Method} {c : Code} {D : va_G} {cA : Nat → ClassId} {sz : Nat} {rr : UInt64} {hh : Hp}  (X : ab_X p s m args meth c cX9_plus 5 RX9 D cA sz) (hr : meth.sig.returnType = (some .double))  {H : Heap} {locs : List Loc} {ls : Array Slot} {v0 : UInt64} {v2 : UInt64} {h : Hp} (S : ab_H D cA sz h s H locs) (hl : lv_has ls 5 [(0, .double v0), (2, .double v2)]) (hF : f_X9_plus_34 v0 v2 h = some (rr, hh)) : W p l e (ab_rm 1 0 0) s m args below meth c H locs 0 0 (MQ below (ab_Q D cA sz (some (.double rr)) hh) args s 0 0 (fun q => sz ≤ q)) (F0 m 34 ls []) := by
  unfold f_X9_plus_34 at hF
  refine lv_iconst (v := 1) X.1 X.2.1 dX9_plus_34 (by decide) ?_
  refine lv_goto (tgt := 39) X.1 X.2.1 dX9_plus_35 (by decide) ?_
  exact w_X9_plus_39 X hr  S (lv_sub hl [0, 1] rfl) hF
def f_X9_plus_38  (v0 : UInt64) (v2 : UInt64) (h : Hp) : Option (UInt64 × Hp) :=
  f_X9_plus_39 v0 v2 0 h
set_option maxHeartbeats 4000000 in
set_option maxRecDepth 100000 in
theorem w_X9_plus_38 {p : Program} {l : Launch} {e : Env} {s : State} {m : MethodId} {args : Array Value} {below : List Frame} {meth : Method} {c : Code} {D : va_G} {cA : Nat → ClassId} {sz : Nat} {rr : UInt64} {hh : Hp}  (X : ab_X p s m args meth c cX9_plus 5 RX9 D cA sz) (hr : meth.sig.returnType = (some .double))  {H : Heap} {locs : List Loc} {ls : Array Slot} {v0 : UInt64} {v2 : UInt64} {h : Hp} (S : ab_H D cA sz h s H locs) (hl : lv_has ls 5 [(0, .double v0), (2, .double v2)]) (hF : f_X9_plus_38 v0 v2 h = some (rr, hh)) : W p l e (ab_rm 1 0 0) s m args below meth c H locs 0 0 (MQ below (ab_Q D cA sz (some (.double rr)) hh) args s 0 0 (fun q => sz ≤ q)) (F0 m 38 ls []) := by
  unfold f_X9_plus_38 at hF
  refine lv_iconst (v := 0) X.1 X.2.1 dX9_plus_38 (by decide) ?_
  exact w_X9_plus_39 X hr  S (lv_sub hl [0, 1] rfl) hF
def f_X9_plus (p0 : UInt64) (p1 : UInt64) (h : Hp) : Option (UInt64 × Hp) :=
  bnd (f_X9_isNumber p0 h) fun x1 h2 =>
  if x1 = 0 then
    f_X9_plus_34 p0 p1 h2
  else
    bnd (f_X9_isNumber p1 h2) fun x5 h6 =>
    if x5 = 0 then
      f_X9_plus_34 p0 p1 h6
    else
      bnd (f_X9_isFinite p0 h6) fun x9 h10 =>
      if ¬ x9 = 0 then
        f_X9_plus_38 p0 p1 h10
      else
        bnd (f_X9_isFinite p1 h10) fun x13 h14 =>
        if ¬ x13 = 0 then
          f_X9_plus_38 p0 p1 h14
        else
          if (Op.cmpValue (FP.dcmp p0 p1) CmpOp.l) = 0 then
            f_X9_plus_38 p0 p1 h14
          else
            f_X9_plus_34 p0 p1 h14
theorem mi_X9_plus : ab_MI yX9_plus cX9_plus 5 (some .double) 2 := ⟨lc_yX9_plus, lz_RX9, by decide, by decide, by decide +kernel⟩
set_option maxHeartbeats 4000000 in
set_option maxRecDepth 100000 in
theorem c_X9_plus (l : Launch) (D : va_G) (cA : Nat → ClassId) (sz : Nat) {p0 : UInt64} {p1 : UInt64} {h hh : Hp} {rr : UInt64} (hF : f_X9_plus p0 p1 h = some (rr, hh)) : ab_C l D cA sz yX9_plus cX9_plus 5 (some .double) 1 0 0 [.double p0, .double p1] h (some (.double rr)) hh := by
  refine Met.ofW (cc := cX9_plus) (maxL := 5) (ret := (some .double)) (by decide) rfl ?_
  intro p e s m args below meth c s₁ B hml hv
  obtain ⟨rfl, hT, hR⟩ := hv
  have X : ab_X p s m _ meth c cX9_plus 5 RX9 D cA sz := (ab_enter B hml hT hR).1
  have S := (ab_enter B hml hT hR).2
  have hr := B.returns
  obtain ⟨ls, hls, hl⟩ := ab_entry m [.double p0, .double p1] 5 (lv := [(0, .double p0), (2, .double p1)]) (by simp [lg_sl, ab_cat, ab_cI, ab_cJ, ab_cD, ab_cF, ab_cA]) (by simp [lv_args, ab_cat, ab_cI, ab_cJ, ab_cD, ab_cF, ab_cA])
  rw [hls]
  have hl : lv_has ls 5 [(0, .double p0), (2, .double p1)] := hl
  unfold f_X9_plus at hF
  show W p l e (ab_rm 1 0 0) s m _ below meth c s.heap [] 0 0 _ _
  refine lv_dload_n X.1 X.2.1 dX9_plus_0 rfl (lv_at hl 0 rfl) ?_
  obtain ⟨x1, h2, e3, hF⟩ := bnd_out hF
  refine ab_callSi X S (c_X9_isNumber l D cA sz e3) mi_X9_isNumber lm_X9_189 lt_yX9_isNumber (As := [.double p0]) (rest := []) rfl ⟨by decide, by decide⟩ ⟨by decide, by decide⟩ hl.1 rfl (by simp [ab_cat, ab_cI, ab_cJ, ab_cD, ab_cF]) dX9_plus_1 (fun H1 locs1 S => ?_)
  refine lv_if_eq (tgt := 34) X.1 X.2.1 dX9_plus_4 (by decide) (fun c4 => ?_) (fun c4 => ?_)
  · have hF := ab_pos c4 hF
    exact w_X9_plus_34 X hr  S (lv_sub hl [0, 1] rfl) hF
  · have hF := ab_neg c4 hF
    refine lv_dload_n X.1 X.2.1 dX9_plus_7 rfl (lv_at hl 1 rfl) ?_
    obtain ⟨x5, h6, e7, hF⟩ := bnd_out hF
    refine ab_callSi X S (c_X9_isNumber l D cA sz e7) mi_X9_isNumber lm_X9_189 lt_yX9_isNumber (As := [.double p1]) (rest := []) rfl ⟨by decide, by decide⟩ ⟨by decide, by decide⟩ hl.1 rfl (by simp [ab_cat, ab_cI, ab_cJ, ab_cD, ab_cF]) dX9_plus_8 (fun H1 locs1 S => ?_)
    refine lv_if_eq (tgt := 34) X.1 X.2.1 dX9_plus_11 (by decide) (fun c8 => ?_) (fun c8 => ?_)
    · have hF := ab_pos c8 hF
      exact w_X9_plus_34 X hr  S (lv_sub hl [0, 1] rfl) hF
    · have hF := ab_neg c8 hF
      refine lv_dload_n X.1 X.2.1 dX9_plus_14 rfl (lv_at hl 0 rfl) ?_
      obtain ⟨x9, h10, e11, hF⟩ := bnd_out hF
      refine ab_callSi X S (c_X9_isFinite l D cA sz e11) mi_X9_isFinite lm_X9_193 lt_yX9_isFinite (As := [.double p0]) (rest := []) rfl ⟨by decide, by decide⟩ ⟨by decide, by decide⟩ hl.1 rfl (by simp [ab_cat, ab_cI, ab_cJ, ab_cD, ab_cF]) dX9_plus_15 (fun H1 locs1 S => ?_)
      refine lv_if_ne (tgt := 38) X.1 X.2.1 dX9_plus_18 (by decide) (fun c12 => ?_) (fun c12 => ?_)
      · have hF := ab_pos c12 hF
        exact w_X9_plus_38 X hr  S (lv_sub hl [0, 1] rfl) hF
      · have hF := ab_neg (fun q => q c12) hF
        refine lv_dload_n X.1 X.2.1 dX9_plus_21 rfl (lv_at hl 1 rfl) ?_
        obtain ⟨x13, h14, e15, hF⟩ := bnd_out hF
        refine ab_callSi X S (c_X9_isFinite l D cA sz e15) mi_X9_isFinite lm_X9_193 lt_yX9_isFinite (As := [.double p1]) (rest := []) rfl ⟨by decide, by decide⟩ ⟨by decide, by decide⟩ hl.1 rfl (by simp [ab_cat, ab_cI, ab_cJ, ab_cD, ab_cF]) dX9_plus_22 (fun H1 locs1 S => ?_)
        refine lv_if_ne (tgt := 38) X.1 X.2.1 dX9_plus_25 (by decide) (fun c16 => ?_) (fun c16 => ?_)
        · have hF := ab_pos c16 hF
          exact w_X9_plus_38 X hr  S (lv_sub hl [0, 1] rfl) hF
        · have hF := ab_neg (fun q => q c16) hF
          refine lv_dload_n X.1 X.2.1 dX9_plus_28 rfl (lv_at hl 0 rfl) ?_
          refine lv_dload_n X.1 X.2.1 dX9_plus_29 rfl (lv_at hl 1 rfl) ?_
          refine lv_dcmp X.1 X.2.1 dX9_plus_30 ?_
          refine lv_if_eq (tgt := 38) X.1 X.2.1 dX9_plus_31 (by decide) (fun c17 => ?_) (fun c17 => ?_)
          · have hF := ab_pos c17 hF
            exact w_X9_plus_38 X hr  S (lv_sub hl [0, 1] rfl) hF
          · have hF := ab_neg c17 hF
            exact w_X9_plus_34 X hr  S (lv_sub hl [0, 1] rfl) hF
def f_X9_less_48  (u0 : UInt64) (h : Hp) : Option (UInt64 × Hp) :=
  some (u0, h)
set_option maxHeartbeats 4000000 in
set_option maxRecDepth 100000 in
theorem w_X9_less_48 {p : Program} {l : Launch} {e : Env} {s : State} {m : MethodId} {args : Array Value} {below : List Frame} {meth : Method} {c : Code} {D : va_G} {cA : Nat → ClassId} {sz : Nat} {rr : UInt64} {hh : Hp}  (X : ab_X p s m args meth c cX9_less 5 RX9 D cA sz) (hr : meth.sig.returnType = (some .double))  {H : Heap} {locs : List Loc} {ls : Array Slot} {u0 : UInt64} {h : Hp} (S : ab_H D cA sz h s H locs) (hl : lv_has ls 5 []) (hF : f_X9_less_48 u0 h = some (rr, hh)) : W p l e (ab_rm 1 0 0) s m args below meth c H locs 0 0 (MQ below (ab_Q D cA sz (some (.double rr)) hh) args s 0 0 (fun q => sz ≤ q)) (F0 m 48 ls [.double u0]) := by
  unfold f_X9_less_48 at hF
  exact ab_dret X S hr hF dX9_less_48
def f_X9_less_32  (v0 : UInt64) (v2 : UInt64) (u0 : Int32) (h : Hp) : Option (UInt64 × Hp) :=
  if u0 = 0 then
    (fop (FP.dsub v0 v2)).bind fun x2 =>
    f_X9_less_48 x2 h
  else
    f_X9_less_48 9221120237041090560 h
set_option maxHeartbeats 4000000 in
set_option maxRecDepth 100000 in
theorem w_X9_less_32 {p : Program} {l : Launch} {e : Env} {s : State} {m : MethodId} {args : Array Value} {below : List Frame} {meth : Method} {c : Code} {D : va_G} {cA : Nat → ClassId} {sz : Nat} {rr : UInt64} {hh : Hp}  (X : ab_X p s m args meth c cX9_less 5 RX9 D cA sz) (hr : meth.sig.returnType = (some .double))  {H : Heap} {locs : List Loc} {ls : Array Slot} {v0 : UInt64} {v2 : UInt64} {u0 : Int32} {h : Hp} (S : ab_H D cA sz h s H locs) (hl : lv_has ls 5 [(0, .double v0), (2, .double v2)]) (hF : f_X9_less_32 v0 v2 u0 h = some (rr, hh)) : W p l e (ab_rm 1 0 0) s m args below meth c H locs 0 0 (MQ below (ab_Q D cA sz (some (.double rr)) hh) args s 0 0 (fun q => sz ≤ q)) (F0 m 32 ls [.int u0]) := by
  unfold f_X9_less_32 at hF
  refine lv_istore (lv' := [(4, .int u0), (0, .double v0), (2, .double v2)]) X.1 X.2.1 dX9_less_32 hl (by decide) (by simp [ab_cat, ab_cI, ab_cJ, ab_cD, ab_cF]) (fun ls hl => ?_)
  refine lv_iload X.1 X.2.1 dX9_less_34 (lv_at hl 0 rfl) ?_
  refine lv_if_eq (tgt := 45) X.1 X.2.1 dX9_less_36 (by decide) (fun c1 => ?_) (fun c1 => ?_)
  · have hF := ab_pos c1 hF
    refine lv_dload_n X.1 X.2.1 dX9_less_45 rfl (lv_at hl 1 rfl) ?_
    refine lv_dload_n X.1 X.2.1 dX9_less_46 rfl (lv_at hl 2 rfl) ?_
    obtain ⟨x2, ev, ne, hF⟩ := ab_fopx hF
    refine lv_dsub X.1 X.2.1 dX9_less_47 ne ?_
    rw [ev]
    exact w_X9_less_48 X hr  S (lv_sub hl [] rfl) hF
  · have hF := ab_neg c1 hF
    refine lv_ldc2d (v := 9221120237041090560) X.1 X.2.1 X.2.2.2.1 (X.2.2.2.2.1 _ ld_X9_196) dX9_less_39 ?_
    refine lv_goto (tgt := 48) X.1 X.2.1 dX9_less_42 (by decide) ?_
    exact w_X9_less_48 X hr  S (lv_sub hl [] rfl) hF
def f_X9_less_27  (v0 : UInt64) (v2 : UInt64) (h : Hp) : Option (UInt64 × Hp) :=
  f_X9_less_32 v0 v2 1 h
set_option maxHeartbeats 4000000 in
set_option maxRecDepth 100000 in
theorem w_X9_less_27 {p : Program} {l : Launch} {e : Env} {s : State} {m : MethodId} {args : Array Value} {below : List Frame} {meth : Method} {c : Code} {D : va_G} {cA : Nat → ClassId} {sz : Nat} {rr : UInt64} {hh : Hp}  (X : ab_X p s m args meth c cX9_less 5 RX9 D cA sz) (hr : meth.sig.returnType = (some .double))  {H : Heap} {locs : List Loc} {ls : Array Slot} {v0 : UInt64} {v2 : UInt64} {h : Hp} (S : ab_H D cA sz h s H locs) (hl : lv_has ls 5 [(0, .double v0), (2, .double v2)]) (hF : f_X9_less_27 v0 v2 h = some (rr, hh)) : W p l e (ab_rm 1 0 0) s m args below meth c H locs 0 0 (MQ below (ab_Q D cA sz (some (.double rr)) hh) args s 0 0 (fun q => sz ≤ q)) (F0 m 27 ls []) := by
  unfold f_X9_less_27 at hF
  refine lv_iconst (v := 1) X.1 X.2.1 dX9_less_27 (by decide) ?_
  refine lv_goto (tgt := 32) X.1 X.2.1 dX9_less_28 (by decide) ?_
  exact w_X9_less_32 X hr  S (lv_sub hl [0, 1] rfl) hF
def f_X9_less_31  (v0 : UInt64) (v2 : UInt64) (h : Hp) : Option (UInt64 × Hp) :=
  f_X9_less_32 v0 v2 0 h
set_option maxHeartbeats 4000000 in
set_option maxRecDepth 100000 in
theorem w_X9_less_31 {p : Program} {l : Launch} {e : Env} {s : State} {m : MethodId} {args : Array Value} {below : List Frame} {meth : Method} {c : Code} {D : va_G} {cA : Nat → ClassId} {sz : Nat} {rr : UInt64} {hh : Hp}  (X : ab_X p s m args meth c cX9_less 5 RX9 D cA sz) (hr : meth.sig.returnType = (some .double))  {H : Heap} {locs : List Loc} {ls : Array Slot} {v0 : UInt64} {v2 : UInt64} {h : Hp} (S : ab_H D cA sz h s H locs) (hl : lv_has ls 5 [(0, .double v0), (2, .double v2)]) (hF : f_X9_less_31 v0 v2 h = some (rr, hh)) : W p l e (ab_rm 1 0 0) s m args below meth c H locs 0 0 (MQ below (ab_Q D cA sz (some (.double rr)) hh) args s 0 0 (fun q => sz ≤ q)) (F0 m 31 ls []) := by
  unfold f_X9_less_31 at hF
  refine lv_iconst (v := 0) X.1 X.2.1 dX9_less_31 (by decide) ?_
  exact w_X9_less_32 X hr  S (lv_sub hl [0, 1] rfl) hF
def f_X9_less (p0 : UInt64) (p1 : UInt64) (h : Hp) : Option (UInt64 × Hp) :=
  bnd (f_X9_isNumber p0 h) fun x1 h2 =>
  if x1 = 0 then
    f_X9_less_27 p0 p1 h2
  else
    bnd (f_X9_isNumber p1 h2) fun x5 h6 =>
    if x5 = 0 then
      f_X9_less_27 p0 p1 h6
    else
      bnd (f_X9_isFinite p0 h6) fun x9 h10 =>
      if ¬ x9 = 0 then
        f_X9_less_31 p0 p1 h10
      else
        if ¬ (Op.cmpValue (FP.dcmp p0 p1) CmpOp.l) = 0 then
          f_X9_less_31 p0 p1 h10
        else
          f_X9_less_27 p0 p1 h10
theorem mi_X9_less : ab_MI yX9_less cX9_less 5 (some .double) 2 := ⟨lc_yX9_less, lz_RX9, by decide, by decide, by decide +kernel⟩
set_option maxHeartbeats 4000000 in
set_option maxRecDepth 100000 in
theorem c_X9_less (l : Launch) (D : va_G) (cA : Nat → ClassId) (sz : Nat) {p0 : UInt64} {p1 : UInt64} {h hh : Hp} {rr : UInt64} (hF : f_X9_less p0 p1 h = some (rr, hh)) : ab_C l D cA sz yX9_less cX9_less 5 (some .double) 1 0 0 [.double p0, .double p1] h (some (.double rr)) hh := by
  refine Met.ofW (cc := cX9_less) (maxL := 5) (ret := (some .double)) (by decide) rfl ?_
  intro p e s m args below meth c s₁ B hml hv
  obtain ⟨rfl, hT, hR⟩ := hv
  have X : ab_X p s m _ meth c cX9_less 5 RX9 D cA sz := (ab_enter B hml hT hR).1
  have S := (ab_enter B hml hT hR).2
  have hr := B.returns
  obtain ⟨ls, hls, hl⟩ := ab_entry m [.double p0, .double p1] 5 (lv := [(0, .double p0), (2, .double p1)]) (by simp [lg_sl, ab_cat, ab_cI, ab_cJ, ab_cD, ab_cF, ab_cA]) (by simp [lv_args, ab_cat, ab_cI, ab_cJ, ab_cD, ab_cF, ab_cA])
  rw [hls]
  have hl : lv_has ls 5 [(0, .double p0), (2, .double p1)] := hl
  unfold f_X9_less at hF
  show W p l e (ab_rm 1 0 0) s m _ below meth c s.heap [] 0 0 _ _
  refine lv_dload_n X.1 X.2.1 dX9_less_0 rfl (lv_at hl 0 rfl) ?_
  obtain ⟨x1, h2, e3, hF⟩ := bnd_out hF
  refine ab_callSi X S (c_X9_isNumber l D cA sz e3) mi_X9_isNumber lm_X9_189 lt_yX9_isNumber (As := [.double p0]) (rest := []) rfl ⟨by decide, by decide⟩ ⟨by decide, by decide⟩ hl.1 rfl (by simp [ab_cat, ab_cI, ab_cJ, ab_cD, ab_cF]) dX9_less_1 (fun H1 locs1 S => ?_)
  refine lv_if_eq (tgt := 27) X.1 X.2.1 dX9_less_4 (by decide) (fun c4 => ?_) (fun c4 => ?_)
  · have hF := ab_pos c4 hF
    exact w_X9_less_27 X hr  S (lv_sub hl [0, 1] rfl) hF
  · have hF := ab_neg c4 hF
    refine lv_dload_n X.1 X.2.1 dX9_less_7 rfl (lv_at hl 1 rfl) ?_
    obtain ⟨x5, h6, e7, hF⟩ := bnd_out hF
    refine ab_callSi X S (c_X9_isNumber l D cA sz e7) mi_X9_isNumber lm_X9_189 lt_yX9_isNumber (As := [.double p1]) (rest := []) rfl ⟨by decide, by decide⟩ ⟨by decide, by decide⟩ hl.1 rfl (by simp [ab_cat, ab_cI, ab_cJ, ab_cD, ab_cF]) dX9_less_8 (fun H1 locs1 S => ?_)
    refine lv_if_eq (tgt := 27) X.1 X.2.1 dX9_less_11 (by decide) (fun c8 => ?_) (fun c8 => ?_)
    · have hF := ab_pos c8 hF
      exact w_X9_less_27 X hr  S (lv_sub hl [0, 1] rfl) hF
    · have hF := ab_neg c8 hF
      refine lv_dload_n X.1 X.2.1 dX9_less_14 rfl (lv_at hl 0 rfl) ?_
      obtain ⟨x9, h10, e11, hF⟩ := bnd_out hF
      refine ab_callSi X S (c_X9_isFinite l D cA sz e11) mi_X9_isFinite lm_X9_193 lt_yX9_isFinite (As := [.double p0]) (rest := []) rfl ⟨by decide, by decide⟩ ⟨by decide, by decide⟩ hl.1 rfl (by simp [ab_cat, ab_cI, ab_cJ, ab_cD, ab_cF]) dX9_less_15 (fun H1 locs1 S => ?_)
      refine lv_if_ne (tgt := 31) X.1 X.2.1 dX9_less_18 (by decide) (fun c12 => ?_) (fun c12 => ?_)
      · have hF := ab_pos c12 hF
        exact w_X9_less_31 X hr  S (lv_sub hl [0, 1] rfl) hF
      · have hF := ab_neg (fun q => q c12) hF
        refine lv_dload_n X.1 X.2.1 dX9_less_21 rfl (lv_at hl 0 rfl) ?_
        refine lv_dload_n X.1 X.2.1 dX9_less_22 rfl (lv_at hl 1 rfl) ?_
        refine lv_dcmp X.1 X.2.1 dX9_less_23 ?_
        refine lv_if_ne (tgt := 31) X.1 X.2.1 dX9_less_24 (by decide) (fun c13 => ?_) (fun c13 => ?_)
        · have hF := ab_pos c13 hF
          exact w_X9_less_31 X hr  S (lv_sub hl [0, 1] rfl) hF
        · have hF := ab_neg (fun q => q c13) hF
          exact w_X9_less_27 X hr  S (lv_sub hl [0, 1] rfl) hF
def f_X9_times_61  (u0 : UInt64) (h : Hp) : Option (UInt64 × Hp) :=
  some (u0, h)
set_option maxHeartbeats 4000000 in
set_option maxRecDepth 100000 in
theorem w_X9_times_61 {p : Program} {l : Launch} {e : Env} {s : State} {m : MethodId} {args : Array Value} {below : List Frame} {meth : Method} {c : Code} {D : va_G} {cA : Nat → ClassId} {sz : Nat} {rr : UInt64} {hh : Hp}  (X : ab_X p s m args meth c cX9_times 5 RX9 D cA sz) (hr : meth.sig.returnType = (some .double))  {H : Heap} {locs : List Loc} {ls : Array Slot} {u0 : UInt64} {h : Hp} (S : ab_H D cA sz h s H locs) (hl : lv_has ls 5 []) (hF : f_X9_times_61 u0 h = some (rr, hh)) : W p l e (ab_rm 1 0 0) s m args below meth c H locs 0 0 (MQ below (ab_Q D cA sz (some (.double rr)) hh) args s 0 0 (fun q => sz ≤ q)) (F0 m 61 ls [.double u0]) := by
  unfold f_X9_times_61 at hF
  exact ab_dret X S hr hF dX9_times_61
def f_X9_times_45  (v0 : UInt64) (v2 : UInt64) (u0 : Int32) (h : Hp) : Option (UInt64 × Hp) :=
  if u0 = 0 then
    (fop (FP.dmul v0 v2)).bind fun x2 =>
    f_X9_times_61 x2 h
  else
    f_X9_times_61 9221120237041090560 h
set_option maxHeartbeats 4000000 in
set_option maxRecDepth 100000 in
theorem w_X9_times_45 {p : Program} {l : Launch} {e : Env} {s : State} {m : MethodId} {args : Array Value} {below : List Frame} {meth : Method} {c : Code} {D : va_G} {cA : Nat → ClassId} {sz : Nat} {rr : UInt64} {hh : Hp}  (X : ab_X p s m args meth c cX9_times 5 RX9 D cA sz) (hr : meth.sig.returnType = (some .double))  {H : Heap} {locs : List Loc} {ls : Array Slot} {v0 : UInt64} {v2 : UInt64} {u0 : Int32} {h : Hp} (S : ab_H D cA sz h s H locs) (hl : lv_has ls 5 [(0, .double v0), (2, .double v2)]) (hF : f_X9_times_45 v0 v2 u0 h = some (rr, hh)) : W p l e (ab_rm 1 0 0) s m args below meth c H locs 0 0 (MQ below (ab_Q D cA sz (some (.double rr)) hh) args s 0 0 (fun q => sz ≤ q)) (F0 m 45 ls [.int u0]) := by
  unfold f_X9_times_45 at hF
  refine lv_istore (lv' := [(4, .int u0), (0, .double v0), (2, .double v2)]) X.1 X.2.1 dX9_times_45 hl (by decide) (by simp [ab_cat, ab_cI, ab_cJ, ab_cD, ab_cF]) (fun ls hl => ?_)
  refine lv_iload X.1 X.2.1 dX9_times_47 (lv_at hl 0 rfl) ?_
  refine lv_if_eq (tgt := 58) X.1 X.2.1 dX9_times_49 (by decide) (fun c1 => ?_) (fun c1 => ?_)
  · have hF := ab_pos c1 hF
    refine lv_dload_n X.1 X.2.1 dX9_times_58 rfl (lv_at hl 1 rfl) ?_
    refine lv_dload_n X.1 X.2.1 dX9_times_59 rfl (lv_at hl 2 rfl) ?_
    obtain ⟨x2, ev, ne, hF⟩ := ab_fopx hF
    refine lv_dmul X.1 X.2.1 dX9_times_60 ne ?_
    rw [ev]
    exact w_X9_times_61 X hr  S (lv_sub hl [] rfl) hF
  · have hF := ab_neg c1 hF
    refine lv_ldc2d (v := 9221120237041090560) X.1 X.2.1 X.2.2.2.1 (X.2.2.2.2.1 _ ld_X9_196) dX9_times_52 ?_
    refine lv_goto (tgt := 61) X.1 X.2.1 dX9_times_55 (by decide) ?_
    exact w_X9_times_61 X hr  S (lv_sub hl [] rfl) hF
def f_X9_times_40  (v0 : UInt64) (v2 : UInt64) (h : Hp) : Option (UInt64 × Hp) :=
  f_X9_times_45 v0 v2 1 h
set_option maxHeartbeats 4000000 in
set_option maxRecDepth 100000 in
theorem w_X9_times_40 {p : Program} {l : Launch} {e : Env} {s : State} {m : MethodId} {args : Array Value} {below : List Frame} {meth : Method} {c : Code} {D : va_G} {cA : Nat → ClassId} {sz : Nat} {rr : UInt64} {hh : Hp}  (X : ab_X p s m args meth c cX9_times 5 RX9 D cA sz) (hr : meth.sig.returnType = (some .double))  {H : Heap} {locs : List Loc} {ls : Array Slot} {v0 : UInt64} {v2 : UInt64} {h : Hp} (S : ab_H D cA sz h s H locs) (hl : lv_has ls 5 [(0, .double v0), (2, .double v2)]) (hF : f_X9_times_40 v0 v2 h = some (rr, hh)) : W p l e (ab_rm 1 0 0) s m args below meth c H locs 0 0 (MQ below (ab_Q D cA sz (some (.double rr)) hh) args s 0 0 (fun q => sz ≤ q)) (F0 m 40 ls []) := by
  unfold f_X9_times_40 at hF
  refine lv_iconst (v := 1) X.1 X.2.1 dX9_times_40 (by decide) ?_
  refine lv_goto (tgt := 45) X.1 X.2.1 dX9_times_41 (by decide) ?_
  exact w_X9_times_45 X hr  S (lv_sub hl [0, 1] rfl) hF
def f_X9_times_44  (v0 : UInt64) (v2 : UInt64) (h : Hp) : Option (UInt64 × Hp) :=
  f_X9_times_45 v0 v2 0 h
set_option maxHeartbeats 4000000 in
set_option maxRecDepth 100000 in
theorem w_X9_times_44 {p : Program} {l : Launch} {e : Env} {s : State} {m : MethodId} {args : Array Value} {below : List Frame} {meth : Method} {c : Code} {D : va_G} {cA : Nat → ClassId} {sz : Nat} {rr : UInt64} {hh : Hp}  (X : ab_X p s m args meth c cX9_times 5 RX9 D cA sz) (hr : meth.sig.returnType = (some .double))  {H : Heap} {locs : List Loc} {ls : Array Slot} {v0 : UInt64} {v2 : UInt64} {h : Hp} (S : ab_H D cA sz h s H locs) (hl : lv_has ls 5 [(0, .double v0), (2, .double v2)]) (hF : f_X9_times_44 v0 v2 h = some (rr, hh)) : W p l e (ab_rm 1 0 0) s m args below meth c H locs 0 0 (MQ below (ab_Q D cA sz (some (.double rr)) hh) args s 0 0 (fun q => sz ≤ q)) (F0 m 44 ls []) := by
  unfold f_X9_times_44 at hF
  refine lv_iconst (v := 0) X.1 X.2.1 dX9_times_44 (by decide) ?_
  exact w_X9_times_45 X hr  S (lv_sub hl [0, 1] rfl) hF
def f_X9_times_27  (v0 : UInt64) (v2 : UInt64) (h : Hp) : Option (UInt64 × Hp) :=
  if ¬ (Op.cmpValue (FP.dcmp v2 FP.dconst0) CmpOp.l) = 0 then
    f_X9_times_44 v0 v2 h
  else
    bnd (f_X9_isFinite v0 h) fun x2 h3 =>
    if ¬ x2 = 0 then
      f_X9_times_44 v0 v2 h3
    else
      f_X9_times_40 v0 v2 h3
set_option maxHeartbeats 4000000 in
set_option maxRecDepth 100000 in
theorem w_X9_times_27 {p : Program} {l : Launch} {e : Env} {s : State} {m : MethodId} {args : Array Value} {below : List Frame} {meth : Method} {c : Code} {D : va_G} {cA : Nat → ClassId} {sz : Nat} {rr : UInt64} {hh : Hp}  (X : ab_X p s m args meth c cX9_times 5 RX9 D cA sz) (hr : meth.sig.returnType = (some .double))  {H : Heap} {locs : List Loc} {ls : Array Slot} {v0 : UInt64} {v2 : UInt64} {h : Hp} (S : ab_H D cA sz h s H locs) (hl : lv_has ls 5 [(0, .double v0), (2, .double v2)]) (hF : f_X9_times_27 v0 v2 h = some (rr, hh)) : W p l e (ab_rm 1 0 0) s m args below meth c H locs 0 0 (MQ below (ab_Q D cA sz (some (.double rr)) hh) args s 0 0 (fun q => sz ≤ q)) (F0 m 27 ls []) := by
  unfold f_X9_times_27 at hF
  refine lv_dload_n X.1 X.2.1 dX9_times_27 rfl (lv_at hl 1 rfl) ?_
  refine lv_dconst0 X.1 X.2.1 dX9_times_28 ?_
  refine lv_dcmp X.1 X.2.1 dX9_times_29 ?_
  refine lv_if_ne (tgt := 44) X.1 X.2.1 dX9_times_30 (by decide) (fun c1 => ?_) (fun c1 => ?_)
  · have hF := ab_pos c1 hF
    exact w_X9_times_44 X hr  S (lv_sub hl [0, 1] rfl) hF
  · have hF := ab_neg (fun q => q c1) hF
    refine lv_dload_n X.1 X.2.1 dX9_times_33 rfl (lv_at hl 0 rfl) ?_
    obtain ⟨x2, h3, e4, hF⟩ := bnd_out hF
    refine ab_callSi X S (c_X9_isFinite l D cA sz e4) mi_X9_isFinite lm_X9_193 lt_yX9_isFinite (As := [.double v0]) (rest := []) rfl ⟨by decide, by decide⟩ ⟨by decide, by decide⟩ hl.1 rfl (by simp [ab_cat, ab_cI, ab_cJ, ab_cD, ab_cF]) dX9_times_34 (fun H1 locs1 S => ?_)
    refine lv_if_ne (tgt := 44) X.1 X.2.1 dX9_times_37 (by decide) (fun c5 => ?_) (fun c5 => ?_)
    · have hF := ab_pos c5 hF
      exact w_X9_times_44 X hr  S (lv_sub hl [0, 1] rfl) hF
    · have hF := ab_neg (fun q => q c5) hF
      exact w_X9_times_40 X hr  S (lv_sub hl [0, 1] rfl) hF
def f_X9_times (p0 : UInt64) (p1 : UInt64) (h : Hp) : Option (UInt64 × Hp) :=
  bnd (f_X9_isNumber p0 h) fun x1 h2 =>
  if x1 = 0 then
    f_X9_times_40 p0 p1 h2
  else
    bnd (f_X9_isNumber p1 h2) fun x5 h6 =>
    if x5 = 0 then
      f_X9_times_40 p0 p1 h6
    else
      if ¬ (Op.cmpValue (FP.dcmp p0 FP.dconst0) CmpOp.l) = 0 then
        f_X9_times_27 p0 p1 h6
      else
        bnd (f_X9_isFinite p1 h6) fun x10 h11 =>
        if x10 = 0 then
          f_X9_times_40 p0 p1 h11
        else
          f_X9_times_27 p0 p1 h11
theorem mi_X9_times : ab_MI yX9_times cX9_times 5 (some .double) 2 := ⟨lc_yX9_times, lz_RX9, by decide, by decide, by decide +kernel⟩
set_option maxHeartbeats 4000000 in
set_option maxRecDepth 100000 in
theorem c_X9_times (l : Launch) (D : va_G) (cA : Nat → ClassId) (sz : Nat) {p0 : UInt64} {p1 : UInt64} {h hh : Hp} {rr : UInt64} (hF : f_X9_times p0 p1 h = some (rr, hh)) : ab_C l D cA sz yX9_times cX9_times 5 (some .double) 1 0 0 [.double p0, .double p1] h (some (.double rr)) hh := by
  refine Met.ofW (cc := cX9_times) (maxL := 5) (ret := (some .double)) (by decide) rfl ?_
  intro p e s m args below meth c s₁ B hml hv
  obtain ⟨rfl, hT, hR⟩ := hv
  have X : ab_X p s m _ meth c cX9_times 5 RX9 D cA sz := (ab_enter B hml hT hR).1
  have S := (ab_enter B hml hT hR).2
  have hr := B.returns
  obtain ⟨ls, hls, hl⟩ := ab_entry m [.double p0, .double p1] 5 (lv := [(0, .double p0), (2, .double p1)]) (by simp [lg_sl, ab_cat, ab_cI, ab_cJ, ab_cD, ab_cF, ab_cA]) (by simp [lv_args, ab_cat, ab_cI, ab_cJ, ab_cD, ab_cF, ab_cA])
  rw [hls]
  have hl : lv_has ls 5 [(0, .double p0), (2, .double p1)] := hl
  unfold f_X9_times at hF
  show W p l e (ab_rm 1 0 0) s m _ below meth c s.heap [] 0 0 _ _
  refine lv_dload_n X.1 X.2.1 dX9_times_0 rfl (lv_at hl 0 rfl) ?_
  obtain ⟨x1, h2, e3, hF⟩ := bnd_out hF
  refine ab_callSi X S (c_X9_isNumber l D cA sz e3) mi_X9_isNumber lm_X9_189 lt_yX9_isNumber (As := [.double p0]) (rest := []) rfl ⟨by decide, by decide⟩ ⟨by decide, by decide⟩ hl.1 rfl (by simp [ab_cat, ab_cI, ab_cJ, ab_cD, ab_cF]) dX9_times_1 (fun H1 locs1 S => ?_)
  refine lv_if_eq (tgt := 40) X.1 X.2.1 dX9_times_4 (by decide) (fun c4 => ?_) (fun c4 => ?_)
  · have hF := ab_pos c4 hF
    exact w_X9_times_40 X hr  S (lv_sub hl [0, 1] rfl) hF
  · have hF := ab_neg c4 hF
    refine lv_dload_n X.1 X.2.1 dX9_times_7 rfl (lv_at hl 1 rfl) ?_
    obtain ⟨x5, h6, e7, hF⟩ := bnd_out hF
    refine ab_callSi X S (c_X9_isNumber l D cA sz e7) mi_X9_isNumber lm_X9_189 lt_yX9_isNumber (As := [.double p1]) (rest := []) rfl ⟨by decide, by decide⟩ ⟨by decide, by decide⟩ hl.1 rfl (by simp [ab_cat, ab_cI, ab_cJ, ab_cD, ab_cF]) dX9_times_8 (fun H1 locs1 S => ?_)
    refine lv_if_eq (tgt := 40) X.1 X.2.1 dX9_times_11 (by decide) (fun c8 => ?_) (fun c8 => ?_)
    · have hF := ab_pos c8 hF
      exact w_X9_times_40 X hr  S (lv_sub hl [0, 1] rfl) hF
    · have hF := ab_neg c8 hF
      refine lv_dload_n X.1 X.2.1 dX9_times_14 rfl (lv_at hl 0 rfl) ?_
      refine lv_dconst0 X.1 X.2.1 dX9_times_15 ?_
      refine lv_dcmp X.1 X.2.1 dX9_times_16 ?_
      refine lv_if_ne (tgt := 27) X.1 X.2.1 dX9_times_17 (by decide) (fun c9 => ?_) (fun c9 => ?_)
      · have hF := ab_pos c9 hF
        exact w_X9_times_27 X hr  S (lv_sub hl [0, 1] rfl) hF
      · have hF := ab_neg (fun q => q c9) hF
        refine lv_dload_n X.1 X.2.1 dX9_times_20 rfl (lv_at hl 1 rfl) ?_
        obtain ⟨x10, h11, e12, hF⟩ := bnd_out hF
        refine ab_callSi X S (c_X9_isFinite l D cA sz e12) mi_X9_isFinite lm_X9_193 lt_yX9_isFinite (As := [.double p1]) (rest := []) rfl ⟨by decide, by decide⟩ ⟨by decide, by decide⟩ hl.1 rfl (by simp [ab_cat, ab_cI, ab_cJ, ab_cD, ab_cF]) dX9_times_21 (fun H1 locs1 S => ?_)
        refine lv_if_eq (tgt := 40) X.1 X.2.1 dX9_times_24 (by decide) (fun c13 => ?_) (fun c13 => ?_)
        · have hF := ab_pos c13 hF
          exact w_X9_times_40 X hr  S (lv_sub hl [0, 1] rfl) hF
        · have hF := ab_neg c13 hF
          exact w_X9_times_27 X hr  S (lv_sub hl [0, 1] rfl) hF
def f_X9_by_61  (u0 : UInt64) (h : Hp) : Option (UInt64 × Hp) :=
  some (u0, h)
set_option maxHeartbeats 4000000 in
set_option maxRecDepth 100000 in
theorem w_X9_by_61 {p : Program} {l : Launch} {e : Env} {s : State} {m : MethodId} {args : Array Value} {below : List Frame} {meth : Method} {c : Code} {D : va_G} {cA : Nat → ClassId} {sz : Nat} {rr : UInt64} {hh : Hp}  (X : ab_X p s m args meth c cX9_by 5 RX9 D cA sz) (hr : meth.sig.returnType = (some .double))  {H : Heap} {locs : List Loc} {ls : Array Slot} {u0 : UInt64} {h : Hp} (S : ab_H D cA sz h s H locs) (hl : lv_has ls 5 []) (hF : f_X9_by_61 u0 h = some (rr, hh)) : W p l e (ab_rm 1 0 0) s m args below meth c H locs 0 0 (MQ below (ab_Q D cA sz (some (.double rr)) hh) args s 0 0 (fun q => sz ≤ q)) (F0 m 61 ls [.double u0]) := by
  unfold f_X9_by_61 at hF
  exact ab_dret X S hr hF dX9_by_61
def f_X9_by_45  (v0 : UInt64) (v2 : UInt64) (u0 : Int32) (h : Hp) : Option (UInt64 × Hp) :=
  if u0 = 0 then
    (fop (FP.ddiv v0 v2)).bind fun x2 =>
    f_X9_by_61 x2 h
  else
    f_X9_by_61 9221120237041090560 h
set_option maxHeartbeats 4000000 in
set_option maxRecDepth 100000 in
theorem w_X9_by_45 {p : Program} {l : Launch} {e : Env} {s : State} {m : MethodId} {args : Array Value} {below : List Frame} {meth : Method} {c : Code} {D : va_G} {cA : Nat → ClassId} {sz : Nat} {rr : UInt64} {hh : Hp}  (X : ab_X p s m args meth c cX9_by 5 RX9 D cA sz) (hr : meth.sig.returnType = (some .double))  {H : Heap} {locs : List Loc} {ls : Array Slot} {v0 : UInt64} {v2 : UInt64} {u0 : Int32} {h : Hp} (S : ab_H D cA sz h s H locs) (hl : lv_has ls 5 [(0, .double v0), (2, .double v2)]) (hF : f_X9_by_45 v0 v2 u0 h = some (rr, hh)) : W p l e (ab_rm 1 0 0) s m args below meth c H locs 0 0 (MQ below (ab_Q D cA sz (some (.double rr)) hh) args s 0 0 (fun q => sz ≤ q)) (F0 m 45 ls [.int u0]) := by
  unfold f_X9_by_45 at hF
  refine lv_istore (lv' := [(4, .int u0), (0, .double v0), (2, .double v2)]) X.1 X.2.1 dX9_by_45 hl (by decide) (by simp [ab_cat, ab_cI, ab_cJ, ab_cD, ab_cF]) (fun ls hl => ?_)
  refine lv_iload X.1 X.2.1 dX9_by_47 (lv_at hl 0 rfl) ?_
  refine lv_if_eq (tgt := 58) X.1 X.2.1 dX9_by_49 (by decide) (fun c1 => ?_) (fun c1 => ?_)
  · have hF := ab_pos c1 hF
    refine lv_dload_n X.1 X.2.1 dX9_by_58 rfl (lv_at hl 1 rfl) ?_
    refine lv_dload_n X.1 X.2.1 dX9_by_59 rfl (lv_at hl 2 rfl) ?_
    obtain ⟨x2, ev, ne, hF⟩ := ab_fopx hF
    refine lv_ddiv X.1 X.2.1 dX9_by_60 ne ?_
    rw [ev]
    exact w_X9_by_61 X hr  S (lv_sub hl [] rfl) hF
  · have hF := ab_neg c1 hF
    refine lv_ldc2d (v := 9221120237041090560) X.1 X.2.1 X.2.2.2.1 (X.2.2.2.2.1 _ ld_X9_196) dX9_by_52 ?_
    refine lv_goto (tgt := 61) X.1 X.2.1 dX9_by_55 (by decide) ?_
    exact w_X9_by_61 X hr  S (lv_sub hl [] rfl) hF
def f_X9_by_40  (v0 : UInt64) (v2 : UInt64) (h : Hp) : Option (UInt64 × Hp) :=
  f_X9_by_45 v0 v2 1 h
set_option maxHeartbeats 4000000 in
set_option maxRecDepth 100000 in
theorem w_X9_by_40 {p : Program} {l : Launch} {e : Env} {s : State} {m : MethodId} {args : Array Value} {below : List Frame} {meth : Method} {c : Code} {D : va_G} {cA : Nat → ClassId} {sz : Nat} {rr : UInt64} {hh : Hp}  (X : ab_X p s m args meth c cX9_by 5 RX9 D cA sz) (hr : meth.sig.returnType = (some .double))  {H : Heap} {locs : List Loc} {ls : Array Slot} {v0 : UInt64} {v2 : UInt64} {h : Hp} (S : ab_H D cA sz h s H locs) (hl : lv_has ls 5 [(0, .double v0), (2, .double v2)]) (hF : f_X9_by_40 v0 v2 h = some (rr, hh)) : W p l e (ab_rm 1 0 0) s m args below meth c H locs 0 0 (MQ below (ab_Q D cA sz (some (.double rr)) hh) args s 0 0 (fun q => sz ≤ q)) (F0 m 40 ls []) := by
  unfold f_X9_by_40 at hF
  refine lv_iconst (v := 1) X.1 X.2.1 dX9_by_40 (by decide) ?_
  refine lv_goto (tgt := 45) X.1 X.2.1 dX9_by_41 (by decide) ?_
  exact w_X9_by_45 X hr  S (lv_sub hl [0, 1] rfl) hF
def f_X9_by_44  (v0 : UInt64) (v2 : UInt64) (h : Hp) : Option (UInt64 × Hp) :=
  f_X9_by_45 v0 v2 0 h
set_option maxHeartbeats 4000000 in
set_option maxRecDepth 100000 in
theorem w_X9_by_44 {p : Program} {l : Launch} {e : Env} {s : State} {m : MethodId} {args : Array Value} {below : List Frame} {meth : Method} {c : Code} {D : va_G} {cA : Nat → ClassId} {sz : Nat} {rr : UInt64} {hh : Hp}  (X : ab_X p s m args meth c cX9_by 5 RX9 D cA sz) (hr : meth.sig.returnType = (some .double))  {H : Heap} {locs : List Loc} {ls : Array Slot} {v0 : UInt64} {v2 : UInt64} {h : Hp} (S : ab_H D cA sz h s H locs) (hl : lv_has ls 5 [(0, .double v0), (2, .double v2)]) (hF : f_X9_by_44 v0 v2 h = some (rr, hh)) : W p l e (ab_rm 1 0 0) s m args below meth c H locs 0 0 (MQ below (ab_Q D cA sz (some (.double rr)) hh) args s 0 0 (fun q => sz ≤ q)) (F0 m 44 ls []) := by
  unfold f_X9_by_44 at hF
  refine lv_iconst (v := 0) X.1 X.2.1 dX9_by_44 (by decide) ?_
  exact w_X9_by_45 X hr  S (lv_sub hl [0, 1] rfl) hF
def f_X9_by_26  (v0 : UInt64) (v2 : UInt64) (h : Hp) : Option (UInt64 × Hp) :=
  bnd (f_X9_isFinite v0 h) fun x1 h2 =>
  if ¬ x1 = 0 then
    f_X9_by_44 v0 v2 h2
  else
    bnd (f_X9_isFinite v2 h2) fun x5 h6 =>
    if ¬ x5 = 0 then
      f_X9_by_44 v0 v2 h6
    else
      f_X9_by_40 v0 v2 h6
set_option maxHeartbeats 4000000 in
set_option maxRecDepth 100000 in
theorem w_X9_by_26 {p : Program} {l : Launch} {e : Env} {s : State} {m : MethodId} {args : Array Value} {below : List Frame} {meth : Method} {c : Code} {D : va_G} {cA : Nat → ClassId} {sz : Nat} {rr : UInt64} {hh : Hp}  (X : ab_X p s m args meth c cX9_by 5 RX9 D cA sz) (hr : meth.sig.returnType = (some .double))  {H : Heap} {locs : List Loc} {ls : Array Slot} {v0 : UInt64} {v2 : UInt64} {h : Hp} (S : ab_H D cA sz h s H locs) (hl : lv_has ls 5 [(0, .double v0), (2, .double v2)]) (hF : f_X9_by_26 v0 v2 h = some (rr, hh)) : W p l e (ab_rm 1 0 0) s m args below meth c H locs 0 0 (MQ below (ab_Q D cA sz (some (.double rr)) hh) args s 0 0 (fun q => sz ≤ q)) (F0 m 26 ls []) := by
  unfold f_X9_by_26 at hF
  refine lv_dload_n X.1 X.2.1 dX9_by_26 rfl (lv_at hl 0 rfl) ?_
  obtain ⟨x1, h2, e3, hF⟩ := bnd_out hF
  refine ab_callSi X S (c_X9_isFinite l D cA sz e3) mi_X9_isFinite lm_X9_193 lt_yX9_isFinite (As := [.double v0]) (rest := []) rfl ⟨by decide, by decide⟩ ⟨by decide, by decide⟩ hl.1 rfl (by simp [ab_cat, ab_cI, ab_cJ, ab_cD, ab_cF]) dX9_by_27 (fun H1 locs1 S => ?_)
  refine lv_if_ne (tgt := 44) X.1 X.2.1 dX9_by_30 (by decide) (fun c4 => ?_) (fun c4 => ?_)
  · have hF := ab_pos c4 hF
    exact w_X9_by_44 X hr  S (lv_sub hl [0, 1] rfl) hF
  · have hF := ab_neg (fun q => q c4) hF
    refine lv_dload_n X.1 X.2.1 dX9_by_33 rfl (lv_at hl 1 rfl) ?_
    obtain ⟨x5, h6, e7, hF⟩ := bnd_out hF
    refine ab_callSi X S (c_X9_isFinite l D cA sz e7) mi_X9_isFinite lm_X9_193 lt_yX9_isFinite (As := [.double v2]) (rest := []) rfl ⟨by decide, by decide⟩ ⟨by decide, by decide⟩ hl.1 rfl (by simp [ab_cat, ab_cI, ab_cJ, ab_cD, ab_cF]) dX9_by_34 (fun H1 locs1 S => ?_)
    refine lv_if_ne (tgt := 44) X.1 X.2.1 dX9_by_37 (by decide) (fun c8 => ?_) (fun c8 => ?_)
    · have hF := ab_pos c8 hF
      exact w_X9_by_44 X hr  S (lv_sub hl [0, 1] rfl) hF
    · have hF := ab_neg (fun q => q c8) hF
      exact w_X9_by_40 X hr  S (lv_sub hl [0, 1] rfl) hF
def f_X9_by (p0 : UInt64) (p1 : UInt64) (h : Hp) : Option (UInt64 × Hp) :=
  bnd (f_X9_isNumber p0 h) fun x1 h2 =>
  if x1 = 0 then
    f_X9_by_40 p0 p1 h2
  else
    bnd (f_X9_isNumber p1 h2) fun x5 h6 =>
    if x5 = 0 then
      f_X9_by_40 p0 p1 h6
    else
      if ¬ (Op.cmpValue (FP.dcmp p0 FP.dconst0) CmpOp.l) = 0 then
        f_X9_by_26 p0 p1 h6
      else
        if (Op.cmpValue (FP.dcmp p1 FP.dconst0) CmpOp.l) = 0 then
          f_X9_by_40 p0 p1 h6
        else
          f_X9_by_26 p0 p1 h6
theorem mi_X9_by : ab_MI yX9_by cX9_by 5 (some .double) 2 := ⟨lc_yX9_by, lz_RX9, by decide, by decide, by decide +kernel⟩
set_option maxHeartbeats 4000000 in
set_option maxRecDepth 100000 in
theorem c_X9_by (l : Launch) (D : va_G) (cA : Nat → ClassId) (sz : Nat) {p0 : UInt64} {p1 : UInt64} {h hh : Hp} {rr : UInt64} (hF : f_X9_by p0 p1 h = some (rr, hh)) : ab_C l D cA sz yX9_by cX9_by 5 (some .double) 1 0 0 [.double p0, .double p1] h (some (.double rr)) hh := by
  refine Met.ofW (cc := cX9_by) (maxL := 5) (ret := (some .double)) (by decide) rfl ?_
  intro p e s m args below meth c s₁ B hml hv
  obtain ⟨rfl, hT, hR⟩ := hv
  have X : ab_X p s m _ meth c cX9_by 5 RX9 D cA sz := (ab_enter B hml hT hR).1
  have S := (ab_enter B hml hT hR).2
  have hr := B.returns
  obtain ⟨ls, hls, hl⟩ := ab_entry m [.double p0, .double p1] 5 (lv := [(0, .double p0), (2, .double p1)]) (by simp [lg_sl, ab_cat, ab_cI, ab_cJ, ab_cD, ab_cF, ab_cA]) (by simp [lv_args, ab_cat, ab_cI, ab_cJ, ab_cD, ab_cF, ab_cA])
  rw [hls]
  have hl : lv_has ls 5 [(0, .double p0), (2, .double p1)] := hl
  unfold f_X9_by at hF
  show W p l e (ab_rm 1 0 0) s m _ below meth c s.heap [] 0 0 _ _
  refine lv_dload_n X.1 X.2.1 dX9_by_0 rfl (lv_at hl 0 rfl) ?_
  obtain ⟨x1, h2, e3, hF⟩ := bnd_out hF
  refine ab_callSi X S (c_X9_isNumber l D cA sz e3) mi_X9_isNumber lm_X9_189 lt_yX9_isNumber (As := [.double p0]) (rest := []) rfl ⟨by decide, by decide⟩ ⟨by decide, by decide⟩ hl.1 rfl (by simp [ab_cat, ab_cI, ab_cJ, ab_cD, ab_cF]) dX9_by_1 (fun H1 locs1 S => ?_)
  refine lv_if_eq (tgt := 40) X.1 X.2.1 dX9_by_4 (by decide) (fun c4 => ?_) (fun c4 => ?_)
  · have hF := ab_pos c4 hF
    exact w_X9_by_40 X hr  S (lv_sub hl [0, 1] rfl) hF
  · have hF := ab_neg c4 hF
    refine lv_dload_n X.1 X.2.1 dX9_by_7 rfl (lv_at hl 1 rfl) ?_
    obtain ⟨x5, h6, e7, hF⟩ := bnd_out hF
    refine ab_callSi X S (c_X9_isNumber l D cA sz e7) mi_X9_isNumber lm_X9_189 lt_yX9_isNumber (As := [.double p1]) (rest := []) rfl ⟨by decide, by decide⟩ ⟨by decide, by decide⟩ hl.1 rfl (by simp [ab_cat, ab_cI, ab_cJ, ab_cD, ab_cF]) dX9_by_8 (fun H1 locs1 S => ?_)
    refine lv_if_eq (tgt := 40) X.1 X.2.1 dX9_by_11 (by decide) (fun c8 => ?_) (fun c8 => ?_)
    · have hF := ab_pos c8 hF
      exact w_X9_by_40 X hr  S (lv_sub hl [0, 1] rfl) hF
    · have hF := ab_neg c8 hF
      refine lv_dload_n X.1 X.2.1 dX9_by_14 rfl (lv_at hl 0 rfl) ?_
      refine lv_dconst0 X.1 X.2.1 dX9_by_15 ?_
      refine lv_dcmp X.1 X.2.1 dX9_by_16 ?_
      refine lv_if_ne (tgt := 26) X.1 X.2.1 dX9_by_17 (by decide) (fun c9 => ?_) (fun c9 => ?_)
      · have hF := ab_pos c9 hF
        exact w_X9_by_26 X hr  S (lv_sub hl [0, 1] rfl) hF
      · have hF := ab_neg (fun q => q c9) hF
        refine lv_dload_n X.1 X.2.1 dX9_by_20 rfl (lv_at hl 1 rfl) ?_
        refine lv_dconst0 X.1 X.2.1 dX9_by_21 ?_
        refine lv_dcmp X.1 X.2.1 dX9_by_22 ?_
        refine lv_if_eq (tgt := 40) X.1 X.2.1 dX9_by_23 (by decide) (fun c10 => ?_) (fun c10 => ?_)
        · have hF := ab_pos c10 hF
          exact w_X9_by_40 X hr  S (lv_sub hl [0, 1] rfl) hF
        · have hF := ab_neg c10 hF
          exact w_X9_by_26 X hr  S (lv_sub hl [0, 1] rfl) hF
def f_X9_turned_15  (u0 : UInt64) (h : Hp) : Option (UInt64 × Hp) :=
  some (u0, h)
set_option maxHeartbeats 4000000 in
set_option maxRecDepth 100000 in
theorem w_X9_turned_15 {p : Program} {l : Launch} {e : Env} {s : State} {m : MethodId} {args : Array Value} {below : List Frame} {meth : Method} {c : Code} {D : va_G} {cA : Nat → ClassId} {sz : Nat} {rr : UInt64} {hh : Hp}  (X : ab_X p s m args meth c cX9_turned 2 RX9 D cA sz) (hr : meth.sig.returnType = (some .double))  {H : Heap} {locs : List Loc} {ls : Array Slot} {u0 : UInt64} {h : Hp} (S : ab_H D cA sz h s H locs) (hl : lv_has ls 2 []) (hF : f_X9_turned_15 u0 h = some (rr, hh)) : W p l e (ab_rm 1 0 0) s m args below meth c H locs 0 0 (MQ below (ab_Q D cA sz (some (.double rr)) hh) args s 0 0 (fun q => sz ≤ q)) (F0 m 15 ls [.double u0]) := by
  unfold f_X9_turned_15 at hF
  exact ab_dret X S hr hF dX9_turned_15
def f_X9_turned (p0 : UInt64) (h : Hp) : Option (UInt64 × Hp) :=
  bnd (f_X9_isNumber p0 h) fun x1 h2 =>
  if x1 = 0 then
    f_X9_turned_15 9221120237041090560 h2
  else
    f_X9_turned_15 (FP.dneg p0) h2
theorem mi_X9_turned : ab_MI yX9_turned cX9_turned 2 (some .double) 1 := ⟨lc_yX9_turned, lz_RX9, by decide, by decide, by decide +kernel⟩
set_option maxHeartbeats 4000000 in
set_option maxRecDepth 100000 in
theorem c_X9_turned (l : Launch) (D : va_G) (cA : Nat → ClassId) (sz : Nat) {p0 : UInt64} {h hh : Hp} {rr : UInt64} (hF : f_X9_turned p0 h = some (rr, hh)) : ab_C l D cA sz yX9_turned cX9_turned 2 (some .double) 1 0 0 [.double p0] h (some (.double rr)) hh := by
  refine Met.ofW (cc := cX9_turned) (maxL := 2) (ret := (some .double)) (by decide) rfl ?_
  intro p e s m args below meth c s₁ B hml hv
  obtain ⟨rfl, hT, hR⟩ := hv
  have X : ab_X p s m _ meth c cX9_turned 2 RX9 D cA sz := (ab_enter B hml hT hR).1
  have S := (ab_enter B hml hT hR).2
  have hr := B.returns
  obtain ⟨ls, hls, hl⟩ := ab_entry m [.double p0] 2 (lv := [(0, .double p0)]) (by simp [lg_sl, ab_cat, ab_cI, ab_cJ, ab_cD, ab_cF, ab_cA]) (by simp [lv_args, ab_cat, ab_cI, ab_cJ, ab_cD, ab_cF, ab_cA])
  rw [hls]
  have hl : lv_has ls 2 [(0, .double p0)] := hl
  unfold f_X9_turned at hF
  show W p l e (ab_rm 1 0 0) s m _ below meth c s.heap [] 0 0 _ _
  refine lv_dload_n X.1 X.2.1 dX9_turned_0 rfl (lv_at hl 0 rfl) ?_
  obtain ⟨x1, h2, e3, hF⟩ := bnd_out hF
  refine ab_callSi X S (c_X9_isNumber l D cA sz e3) mi_X9_isNumber lm_X9_189 lt_yX9_isNumber (As := [.double p0]) (rest := []) rfl ⟨by decide, by decide⟩ ⟨by decide, by decide⟩ hl.1 rfl (by simp [ab_cat, ab_cI, ab_cJ, ab_cD, ab_cF]) dX9_turned_1 (fun H1 locs1 S => ?_)
  refine lv_if_eq (tgt := 12) X.1 X.2.1 dX9_turned_4 (by decide) (fun c4 => ?_) (fun c4 => ?_)
  · have hF := ab_pos c4 hF
    refine lv_ldc2d (v := 9221120237041090560) X.1 X.2.1 X.2.2.2.1 (X.2.2.2.2.1 _ ld_X9_196) dX9_turned_12 ?_
    exact w_X9_turned_15 X hr  S (lv_sub hl [] rfl) hF
  · have hF := ab_neg c4 hF
    refine lv_dload_n X.1 X.2.1 dX9_turned_7 rfl (lv_at hl 0 rfl) ?_
    refine lv_dneg X.1 X.2.1 dX9_turned_8 ?_
    refine lv_goto (tgt := 15) X.1 X.2.1 dX9_turned_9 (by decide) ?_
    exact w_X9_turned_15 X hr  S (lv_sub hl [] rfl) hF
def f_X9_size_22  (u0 : UInt64) (h : Hp) : Option (UInt64 × Hp) :=
  some (u0, h)
set_option maxHeartbeats 4000000 in
set_option maxRecDepth 100000 in
theorem w_X9_size_22 {p : Program} {l : Launch} {e : Env} {s : State} {m : MethodId} {args : Array Value} {below : List Frame} {meth : Method} {c : Code} {D : va_G} {cA : Nat → ClassId} {sz : Nat} {rr : UInt64} {hh : Hp}  (X : ab_X p s m args meth c cX9_size 2 RX9 D cA sz) (hr : meth.sig.returnType = (some .double))  {H : Heap} {locs : List Loc} {ls : Array Slot} {u0 : UInt64} {h : Hp} (S : ab_H D cA sz h s H locs) (hl : lv_has ls 2 []) (hF : f_X9_size_22 u0 h = some (rr, hh)) : W p l e (ab_rm 0 0 0) s m args below meth c H locs 0 0 (MQ below (ab_Q D cA sz (some (.double rr)) hh) args s 0 0 (fun q => sz ≤ q)) (F0 m 22 ls [.double u0]) := by
  unfold f_X9_size_22 at hF
  exact ab_dret X S hr hF dX9_size_22
def f_X9_size (p0 : UInt64) (h : Hp) : Option (UInt64 × Hp) :=
  if 0 ≤ (Op.cmpValue (FP.dcmp p0 FP.dconst0) CmpOp.g) then
    if ¬ (Op.cmpValue (FP.dcmp p0 FP.dconst0) CmpOp.l) = 0 then
      f_X9_size_22 p0 h
    else
      f_X9_size_22 FP.dconst0 h
  else
    f_X9_size_22 (FP.dneg p0) h
theorem mi_X9_size : ab_MI yX9_size cX9_size 2 (some .double) 1 := ⟨lc_yX9_size, lz_RX9, by decide, by decide, by decide +kernel⟩
set_option maxHeartbeats 4000000 in
set_option maxRecDepth 100000 in
theorem c_X9_size (l : Launch) (D : va_G) (cA : Nat → ClassId) (sz : Nat) {p0 : UInt64} {h hh : Hp} {rr : UInt64} (hF : f_X9_size p0 h = some (rr, hh)) : ab_C l D cA sz yX9_size cX9_size 2 (some .double) 0 0 0 [.double p0] h (some (.double rr)) hh := by
  refine Met.ofW (cc := cX9_size) (maxL := 2) (ret := (some .double)) (by decide) rfl ?_
  intro p e s m args below meth c s₁ B hml hv
  obtain ⟨rfl, hT, hR⟩ := hv
  have X : ab_X p s m _ meth c cX9_size 2 RX9 D cA sz := (ab_enter B hml hT hR).1
  have S := (ab_enter B hml hT hR).2
  have hr := B.returns
  obtain ⟨ls, hls, hl⟩ := ab_entry m [.double p0] 2 (lv := [(0, .double p0)]) (by simp [lg_sl, ab_cat, ab_cI, ab_cJ, ab_cD, ab_cF, ab_cA]) (by simp [lv_args, ab_cat, ab_cI, ab_cJ, ab_cD, ab_cF, ab_cA])
  rw [hls]
  have hl : lv_has ls 2 [(0, .double p0)] := hl
  unfold f_X9_size at hF
  show W p l e (ab_rm 0 0 0) s m _ below meth c s.heap [] 0 0 _ _
  refine lv_dload_n X.1 X.2.1 dX9_size_0 rfl (lv_at hl 0 rfl) ?_
  refine lv_dconst0 X.1 X.2.1 dX9_size_1 ?_
  refine lv_dcmp X.1 X.2.1 dX9_size_2 ?_
  refine lv_if_ge (tgt := 11) X.1 X.2.1 dX9_size_3 (by decide) (fun c1 => ?_) (fun c1 => ?_)
  · have hF := ab_pos c1 hF
    refine lv_dload_n X.1 X.2.1 dX9_size_11 rfl (lv_at hl 0 rfl) ?_
    refine lv_dconst0 X.1 X.2.1 dX9_size_12 ?_
    refine lv_dcmp X.1 X.2.1 dX9_size_13 ?_
    refine lv_if_ne (tgt := 21) X.1 X.2.1 dX9_size_14 (by decide) (fun c2 => ?_) (fun c2 => ?_)
    · have hF := ab_pos c2 hF
      refine lv_dload_n X.1 X.2.1 dX9_size_21 rfl (lv_at hl 0 rfl) ?_
      exact w_X9_size_22 X hr  S (lv_sub hl [] rfl) hF
    · have hF := ab_neg (fun q => q c2) hF
      refine lv_dconst0 X.1 X.2.1 dX9_size_17 ?_
      refine lv_goto (tgt := 22) X.1 X.2.1 dX9_size_18 (by decide) ?_
      exact w_X9_size_22 X hr  S (lv_sub hl [] rfl) hF
  · have hF := ab_neg c1 hF
    refine lv_dload_n X.1 X.2.1 dX9_size_6 rfl (lv_at hl 0 rfl) ?_
    refine lv_dneg X.1 X.2.1 dX9_size_7 ?_
    refine lv_goto (tgt := 22) X.1 X.2.1 dX9_size_8 (by decide) ?_
    exact w_X9_size_22 X hr  S (lv_sub hl [] rfl) hF
def f_X9_least_49  (u0 : UInt64) (h : Hp) : Option (UInt64 × Hp) :=
  some (u0, h)
set_option maxHeartbeats 4000000 in
set_option maxRecDepth 100000 in
theorem w_X9_least_49 {p : Program} {l : Launch} {e : Env} {s : State} {m : MethodId} {args : Array Value} {below : List Frame} {meth : Method} {c : Code} {D : va_G} {cA : Nat → ClassId} {sz : Nat} {rr : UInt64} {hh : Hp}  (X : ab_X p s m args meth c cX9_least 4 RX9 D cA sz) (hr : meth.sig.returnType = (some .double))  {H : Heap} {locs : List Loc} {ls : Array Slot} {u0 : UInt64} {h : Hp} (S : ab_H D cA sz h s H locs) (hl : lv_has ls 4 []) (hF : f_X9_least_49 u0 h = some (rr, hh)) : W p l e (ab_rm 0 0 0) s m args below meth c H locs 0 0 (MQ below (ab_Q D cA sz (some (.double rr)) hh) args s 0 0 (fun q => sz ≤ q)) (F0 m 49 ls [.double u0]) := by
  unfold f_X9_least_49 at hF
  exact ab_dret X S hr hF dX9_least_49
def f_X9_least_37  (u0 : UInt64) (h : Hp) : Option (UInt64 × Hp) :=
  some (u0, h)
set_option maxHeartbeats 4000000 in
set_option maxRecDepth 100000 in
theorem w_X9_least_37 {p : Program} {l : Launch} {e : Env} {s : State} {m : MethodId} {args : Array Value} {below : List Frame} {meth : Method} {c : Code} {D : va_G} {cA : Nat → ClassId} {sz : Nat} {rr : UInt64} {hh : Hp}  (X : ab_X p s m args meth c cX9_least 4 RX9 D cA sz) (hr : meth.sig.returnType = (some .double))  {H : Heap} {locs : List Loc} {ls : Array Slot} {u0 : UInt64} {h : Hp} (S : ab_H D cA sz h s H locs) (hl : lv_has ls 4 []) (hF : f_X9_least_37 u0 h = some (rr, hh)) : W p l e (ab_rm 0 0 0) s m args below meth c H locs 0 0 (MQ below (ab_Q D cA sz (some (.double rr)) hh) args s 0 0 (fun q => sz ≤ q)) (F0 m 37 ls [.double u0]) := by
  unfold f_X9_least_37 at hF
  exact ab_dret X S hr hF dX9_least_37
def f_X9_least (p0 : UInt64) (p1 : UInt64) (h : Hp) : Option (UInt64 × Hp) :=
  if (Op.cmpValue (FP.dcmp p0 p0) CmpOp.l) = 0 then
    if (Op.cmpValue (FP.dcmp p1 p1) CmpOp.l) = 0 then
      if ¬ (Op.cmpValue (FP.dcmp p0 p1) CmpOp.l) = 0 then
        if 0 ≤ (Op.cmpValue (FP.dcmp p0 p1) CmpOp.g) then
          f_X9_least_49 p1 h
        else
          f_X9_least_49 p0 h
      else
        (fop (FP.ddiv FP.dconst1 p0)).bind fun x5 =>
        (fop (FP.ddiv FP.dconst1 p1)).bind fun x6 =>
        if 0 ≤ (Op.cmpValue (FP.dcmp x5 x6) CmpOp.g) then
          f_X9_least_37 p1 h
        else
          f_X9_least_37 p0 h
    else
      some (p1, h)
  else
    some (p0, h)
theorem mi_X9_least : ab_MI yX9_least cX9_least 4 (some .double) 2 := ⟨lc_yX9_least, lz_RX9, by decide, by decide, by decide +kernel⟩
set_option maxHeartbeats 4000000 in
set_option maxRecDepth 100000 in
theorem c_X9_least (l : Launch) (D : va_G) (cA : Nat → ClassId) (sz : Nat) {p0 : UInt64} {p1 : UInt64} {h hh : Hp} {rr : UInt64} (hF : f_X9_least p0 p1 h = some (rr, hh)) : ab_C l D cA sz yX9_least cX9_least 4 (some .double) 0 0 0 [.double p0, .double p1] h (some (.double rr)) hh := by
  refine Met.ofW (cc := cX9_least) (maxL := 4) (ret := (some .double)) (by decide) rfl ?_
  intro p e s m args below meth c s₁ B hml hv
  obtain ⟨rfl, hT, hR⟩ := hv
  have X : ab_X p s m _ meth c cX9_least 4 RX9 D cA sz := (ab_enter B hml hT hR).1
  have S := (ab_enter B hml hT hR).2
  have hr := B.returns
  obtain ⟨ls, hls, hl⟩ := ab_entry m [.double p0, .double p1] 4 (lv := [(0, .double p0), (2, .double p1)]) (by simp [lg_sl, ab_cat, ab_cI, ab_cJ, ab_cD, ab_cF, ab_cA]) (by simp [lv_args, ab_cat, ab_cI, ab_cJ, ab_cD, ab_cF, ab_cA])
  rw [hls]
  have hl : lv_has ls 4 [(0, .double p0), (2, .double p1)] := hl
  unfold f_X9_least at hF
  show W p l e (ab_rm 0 0 0) s m _ below meth c s.heap [] 0 0 _ _
  refine lv_dload_n X.1 X.2.1 dX9_least_0 rfl (lv_at hl 0 rfl) ?_
  refine lv_dload_n X.1 X.2.1 dX9_least_1 rfl (lv_at hl 0 rfl) ?_
  refine lv_dcmp X.1 X.2.1 dX9_least_2 ?_
  refine lv_if_eq (tgt := 8) X.1 X.2.1 dX9_least_3 (by decide) (fun c1 => ?_) (fun c1 => ?_)
  · have hF := ab_pos c1 hF
    refine lv_dload_n X.1 X.2.1 dX9_least_8 rfl (lv_at hl 1 rfl) ?_
    refine lv_dload_n X.1 X.2.1 dX9_least_9 rfl (lv_at hl 1 rfl) ?_
    refine lv_dcmp X.1 X.2.1 dX9_least_10 ?_
    refine lv_if_eq (tgt := 16) X.1 X.2.1 dX9_least_11 (by decide) (fun c2 => ?_) (fun c2 => ?_)
    · have hF := ab_pos c2 hF
      refine lv_dload_n X.1 X.2.1 dX9_least_16 rfl (lv_at hl 0 rfl) ?_
      refine lv_dload_n X.1 X.2.1 dX9_least_17 rfl (lv_at hl 1 rfl) ?_
      refine lv_dcmp X.1 X.2.1 dX9_least_18 ?_
      refine lv_if_ne (tgt := 38) X.1 X.2.1 dX9_least_19 (by decide) (fun c3 => ?_) (fun c3 => ?_)
      · have hF := ab_pos c3 hF
        refine lv_dload_n X.1 X.2.1 dX9_least_38 rfl (lv_at hl 0 rfl) ?_
        refine lv_dload_n X.1 X.2.1 dX9_least_39 rfl (lv_at hl 1 rfl) ?_
        refine lv_dcmp X.1 X.2.1 dX9_least_40 ?_
        refine lv_if_ge (tgt := 48) X.1 X.2.1 dX9_least_41 (by decide) (fun c4 => ?_) (fun c4 => ?_)
        · have hF := ab_pos c4 hF
          refine lv_dload_n X.1 X.2.1 dX9_least_48 rfl (lv_at hl 1 rfl) ?_
          exact w_X9_least_49 X hr  S (lv_sub hl [] rfl) hF
        · have hF := ab_neg c4 hF
          refine lv_dload_n X.1 X.2.1 dX9_least_44 rfl (lv_at hl 0 rfl) ?_
          refine lv_goto (tgt := 49) X.1 X.2.1 dX9_least_45 (by decide) ?_
          exact w_X9_least_49 X hr  S (lv_sub hl [] rfl) hF
      · have hF := ab_neg (fun q => q c3) hF
        refine lv_dconst1 X.1 X.2.1 dX9_least_22 ?_
        refine lv_dload_n X.1 X.2.1 dX9_least_23 rfl (lv_at hl 0 rfl) ?_
        obtain ⟨x5, ev, ne, hF⟩ := ab_fopx hF
        refine lv_ddiv X.1 X.2.1 dX9_least_24 ne ?_
        rw [ev]
        refine lv_dconst1 X.1 X.2.1 dX9_least_25 ?_
        refine lv_dload_n X.1 X.2.1 dX9_least_26 rfl (lv_at hl 1 rfl) ?_
        obtain ⟨x6, ev, ne, hF⟩ := ab_fopx hF
        refine lv_ddiv X.1 X.2.1 dX9_least_27 ne ?_
        rw [ev]
        refine lv_dcmp X.1 X.2.1 dX9_least_28 ?_
        refine lv_if_ge (tgt := 36) X.1 X.2.1 dX9_least_29 (by decide) (fun c7 => ?_) (fun c7 => ?_)
        · have hF := ab_pos c7 hF
          refine lv_dload_n X.1 X.2.1 dX9_least_36 rfl (lv_at hl 1 rfl) ?_
          exact w_X9_least_37 X hr  S (lv_sub hl [] rfl) hF
        · have hF := ab_neg c7 hF
          refine lv_dload_n X.1 X.2.1 dX9_least_32 rfl (lv_at hl 0 rfl) ?_
          refine lv_goto (tgt := 37) X.1 X.2.1 dX9_least_33 (by decide) ?_
          exact w_X9_least_37 X hr  S (lv_sub hl [] rfl) hF
    · have hF := ab_neg c2 hF
      refine lv_dload_n X.1 X.2.1 dX9_least_14 rfl (lv_at hl 1 rfl) ?_
      exact ab_dret X S hr hF dX9_least_15
  · have hF := ab_neg c1 hF
    refine lv_dload_n X.1 X.2.1 dX9_least_6 rfl (lv_at hl 0 rfl) ?_
    exact ab_dret X S hr hF dX9_least_7
