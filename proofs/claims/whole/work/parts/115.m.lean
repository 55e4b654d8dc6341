def f_X6_reckonEnd (this : Nat) (h : Hp) : Option (Unit × Hp) :=
  (getR h (some this) 6 1).bind fun x1 =>
  (getD h (some this) 6 5).bind fun x2 =>
  (getR h (some this) 6 8).bind fun x3 =>
  (getR h (some this) 6 1).bind fun x4 =>
  (getI h x4 1 12).bind fun x5 =>
  (ab_ck h x1 (1, 0)).bind fun a9 =>
  bnd (f_X1_reckonNodes a9 x2 x3 x5 h) fun _ h7 =>
  (getR h7 (some this) 6 1).bind fun x11 =>
  (getR h7 (some this) 6 11).bind fun x12 =>
  (ab_ck h7 x11 (1, 0)).bind fun a16 =>
  bnd (f_X1_readSides a16 x12 h7) fun _ h14 =>
  some ((), h14)
theorem mi_X6_reckonEnd : ab_MI yX6_reckonEnd cX6_reckonEnd 1 none 0 := ⟨lc_yX6_reckonEnd, lz_RX6, by decide, by decide, by decide +kernel⟩
set_option maxHeartbeats 4000000 in
set_option maxRecDepth 100000 in
theorem c_X6_reckonEnd (l : Launch) (D : va_G) (cA : Nat → ClassId) (sz : Nat) {this : Nat} {h hh : Hp}  (hF : f_X6_reckonEnd this h = some ((), hh)) : ab_C l D cA sz yX6_reckonEnd cX6_reckonEnd 1 none 3 0 0 [.ref this] h none hh := by
  refine Met.ofW (cc := cX6_reckonEnd) (maxL := 1) (ret := none) (by decide) rfl ?_
  intro p e s m args below meth c s₁ B hml hv
  obtain ⟨rfl, hT, hR⟩ := hv
  have X : ab_X p s m _ meth c cX6_reckonEnd 1 RX6 D cA sz := (ab_enter B hml hT hR).1
  have S := (ab_enter B hml hT hR).2
  have hr := B.returns
  obtain ⟨ls, hls, hl⟩ := ab_entry m [.ref this] 1 (lv := [(0, .ref this)]) (by simp [lg_sl, ab_cat, ab_cI, ab_cJ, ab_cD, ab_cF, ab_cA]) (by simp [lv_args, ab_cat, ab_cI, ab_cJ, ab_cD, ab_cF, ab_cA])
  rw [hls]
  have hl : lv_has ls 1 [(0, va_rf (some this))] := hl
  unfold f_X6_reckonEnd at hF
  show W p l e (ab_rm 3 0 0) s m _ below meth c s.heap [] 0 0 _ _
  refine ab_aload_n X dX6_reckonEnd_0 rfl (lv_at hl 0 rfl) ?_
  refine ab_getR X S hF fi_6_1 lf_X6_40 dX6_reckonEnd_1 (fun x1 hF => ?_)
  refine ab_aload_n X dX6_reckonEnd_4 rfl (lv_at hl 0 rfl) ?_
  refine ab_getD X S hF fi_6_5 lf_X6_55 dX6_reckonEnd_5 (fun x2 hF => ?_)
  refine ab_aload_n X dX6_reckonEnd_8 rfl (lv_at hl 0 rfl) ?_
  refine ab_getR X S hF fi_6_8 lf_X6_27 dX6_reckonEnd_9 (fun x3 hF => ?_)
  refine ab_aload_n X dX6_reckonEnd_12 rfl (lv_at hl 0 rfl) ?_
  refine ab_getR X S hF fi_6_1 lf_X6_40 dX6_reckonEnd_13 (fun x4 hF => ?_)
  refine ab_getI X S hF fi_1_12 lf_X6_109 dX6_reckonEnd_16 (fun x5 hF => ?_)
  obtain ⟨a9, e10, hF⟩ := bind_out hF
  obtain ⟨x6, h7, e8, hF⟩ := bnd_out hF
  refine ab_callVv X S e10 (c_X1_reckonNodes l D cA sz e8) rfl (by decide) mi_X1_reckonNodes lm_X6_112 li_yX1_reckonNodes ls_yX1_reckonNodes (As := [.double x2, va_rf x3, .int x5]) (rest := []) rfl ⟨by decide, by decide⟩ ⟨(by decide), (by decide)⟩ hl.1 rfl (by simp [ab_cat, ab_cI, ab_cJ, ab_cD, ab_cF]) dX6_reckonEnd_19 (fun H1 locs1 S => ?_)
  refine ab_aload_n X dX6_reckonEnd_22 rfl (lv_at hl 0 rfl) ?_
  refine ab_getR X S hF fi_6_1 lf_X6_40 dX6_reckonEnd_23 (fun x11 hF => ?_)
  refine ab_aload_n X dX6_reckonEnd_26 rfl (lv_at hl 0 rfl) ?_
  refine ab_getR X S hF fi_6_11 lf_X6_37 dX6_reckonEnd_27 (fun x12 hF => ?_)
  obtain ⟨a16, e17, hF⟩ := bind_out hF
  obtain ⟨x13, h14, e15, hF⟩ := bnd_out hF
  refine ab_callVv X S e17 (c_X1_readSides l D cA sz e15) rfl (by decide) mi_X1_readSides lm_X6_116 li_yX1_readSides ls_yX1_readSides (As := [va_rf x12]) (rest := []) rfl ⟨by decide, by decide⟩ ⟨(by decide), (by decide)⟩ hl.1 rfl (by simp [ab_cat, ab_cI, ab_cJ, ab_cD, ab_cF]) dX6_reckonEnd_30 (fun H1 locs1 S => ?_)
  exact ab_vret X S hr hF dX6_reckonEnd_33
def f_X7_told_25  (u0 : Int64) (h : Hp) : Option (Int64 × Hp) :=
  some (u0, h)
set_option maxHeartbeats 4000000 in
set_option maxRecDepth 100000 in
theorem w_X7_told_25 {p : Program} {l : Launch} {e : Env} {s : State} {m : MethodId} {args : Array Value} {below : List Frame} {meth : Method} {c : Code} {D : va_G} {cA : Nat → ClassId} {sz : Nat} {rr : Int64} {hh : Hp}  (X : ab_X p s m args meth c cX7_told 3 RX7 D cA sz) (hr : meth.sig.returnType = (some .long))  {H : Heap} {locs : List Loc} {ls : Array Slot} {u0 : Int64} {h : Hp} (S : ab_H D cA sz h s H locs) (hl : lv_has ls 3 []) (hF : f_X7_told_25 u0 h = some (rr, hh)) : W p l e (ab_rm 2 0 0) s m args below meth c H locs 0 0 (MQ below (ab_Q D cA sz (some (.long rr)) hh) args s 0 0 (fun q => sz ≤ q)) (F0 m 25 ls [.long u0]) := by
  unfold f_X7_told_25 at hF
  exact ab_lret X S hr hF dX7_told_25
def f_X7_told (this : Nat) (p0 : Option Nat) (p1 : Int32) (h : Hp) : Option (Int64 × Hp) :=
  (getR h p0 3 1).bind fun x1 =>
  (aldI h x1 12 p1).bind fun x2 =>
  if x2 = 0 then
    (getR h p0 3 0).bind fun x4 =>
    (aldD h x4 p1).bind fun x5 =>
    (ab_ck h (some this) (7, 0)).bind fun a9 =>
    bnd (f_X7_bits a9 x5 h) fun x6 h7 =>
    f_X7_told_25 x6 h7
  else
    f_X7_told_25 (9221120237041090560) h
theorem mi_X7_told : ab_MI yX7_told cX7_told 3 (some .long) 2 := ⟨lc_yX7_told, lz_RX7, by decide, by decide, by decide +kernel⟩
set_option maxHeartbeats 4000000 in
set_option maxRecDepth 100000 in
theorem c_X7_told (l : Launch) (D : va_G) (cA : Nat → ClassId) (sz : Nat) {this : Nat} {p0 : Option Nat} {p1 : Int32} {h hh : Hp} {rr : Int64} (hF : f_X7_told this p0 p1 h = some (rr, hh)) : ab_C l D cA sz yX7_told cX7_told 3 (some .long) 2 0 0 [.ref this, va_rf p0, .int p1] h (some (.long rr)) hh := by
  refine Met.ofW (cc := cX7_told) (maxL := 3) (ret := (some .long)) (by decide) rfl ?_
  intro p e s m args below meth c s₁ B hml hv
  obtain ⟨rfl, hT, hR⟩ := hv
  have X : ab_X p s m _ meth c cX7_told 3 RX7 D cA sz := (ab_enter B hml hT hR).1
  have S := (ab_enter B hml hT hR).2
  have hr := B.returns
  obtain ⟨ls, hls, hl⟩ := ab_entry m [.ref this, va_rf p0, .int p1] 3 (lv := [(0, .ref this), (1, va_rf p0), (2, .int p1)]) (by simp [lg_sl, ab_cat, ab_cI, ab_cJ, ab_cD, ab_cF, ab_cA]) (by simp [lv_args, ab_cat, ab_cI, ab_cJ, ab_cD, ab_cF, ab_cA])
  rw [hls]
  have hl : lv_has ls 3 [(0, va_rf (some this)), (1, va_rf p0), (2, .int p1)] := hl
  unfold f_X7_told at hF
  show W p l e (ab_rm 2 0 0) s m _ below meth c s.heap [] 0 0 _ _
  refine ab_aload_n X dX7_told_0 rfl (lv_at hl 1 rfl) ?_
  refine ab_getR X S hF fi_3_1 lf_X7_17 dX7_told_1 (fun x1 hF => ?_)
  refine lv_iload_n X.1 X.2.1 dX7_told_4 rfl (lv_at hl 2 rfl) ?_
  refine ab_aldZ X S hF dX7_told_5 (fun x2 hF => ?_)
  refine lv_if_eq (tgt := 15) X.1 X.2.1 dX7_told_6 (by decide) (fun c3 => ?_) (fun c3 => ?_)
  · have hF := ab_pos c3 hF
    refine ab_aload_n X dX7_told_15 rfl (lv_at hl 0 rfl) ?_
    refine ab_aload_n X dX7_told_16 rfl (lv_at hl 1 rfl) ?_
    refine ab_getR X S hF fi_3_0 lf_X7_25 dX7_told_17 (fun x4 hF => ?_)
    refine lv_iload_n X.1 X.2.1 dX7_told_20 rfl (lv_at hl 2 rfl) ?_
    refine ab_aldD X S hF dX7_told_21 (fun x5 hF => ?_)
    obtain ⟨a9, e10, hF⟩ := bind_out hF
    obtain ⟨x6, h7, e8, hF⟩ := bnd_out hF
    refine ab_callVl X S e10 (c_X7_bits l D cA sz e8) rfl (by decide) mi_X7_bits lm_X7_28 li_yX7_bits ls_yX7_bits (As := [.double x5]) (rest := []) rfl ⟨by decide, by decide⟩ ⟨(by decide), (by decide)⟩ hl.1 rfl (by simp [ab_cat, ab_cI, ab_cJ, ab_cD, ab_cF]) dX7_told_22 (fun H1 locs1 S => ?_)
    exact w_X7_told_25 X hr  S (lv_sub hl [] rfl) hF
  · have hF := ab_neg c3 hF
    refine lv_ldc2 (v := (9221120237041090560)) X.1 X.2.1 X.2.2.2.1 (X.2.2.2.2.1 _ ll_X7_23) dX7_told_9 ?_
    refine lv_goto (tgt := 25) X.1 X.2.1 dX7_told_12 (by decide) ?_
    exact w_X7_told_25 X hr  S (lv_sub hl [] rfl) hF
def f_X8_state_21   (h : Hp) : Option (Int64 × Hp) :=
  some ((9221120237041090560), h)
set_option maxHeartbeats 4000000 in
set_option maxRecDepth 100000 in
theorem w_X8_state_21 {p : Program} {l : Launch} {e : Env} {s : State} {m : MethodId} {args : Array Value} {below : List Frame} {meth : Method} {c : Code} {D : va_G} {cA : Nat → ClassId} {sz : Nat} {rr : Int64} {hh : Hp}  (X : ab_X p s m args meth c cX8_state 4 RX8 D cA sz) (hr : meth.sig.returnType = (some .long))  {H : Heap} {locs : List Loc} {ls : Array Slot}  {h : Hp} (S : ab_H D cA sz h s H locs) (hl : lv_has ls 4 []) (hF : f_X8_state_21  h = some (rr, hh)) : W p l e (ab_rm 3 0 0) s m args below meth c H locs 0 0 (MQ below (ab_Q D cA sz (some (.long rr)) hh) args s 0 0 (fun q => sz ≤ q)) (F0 m 21 ls []) := by
  unfold f_X8_state_21 at hF
  refine lv_ldc2 (v := (9221120237041090560)) X.1 X.2.1 X.2.2.2.1 (X.2.2.2.2.1 _ ll_X8_190) dX8_state_21 ?_
  exact ab_lret X S hr hF dX8_state_24
def f_X8_state (this : Nat) (p0 : Int32) (p1 : Int32) (h : Hp) : Option (Int64 × Hp) :=
  (ab_ck h (some this) (8, 0)).bind fun a4 =>
  bnd (f_X8_runAt a4 p0 h) fun x1 h2 =>
  if x1 = none then
    f_X8_state_21 h2
  else
    (getR h2 x1 4 0).bind fun x7 =>
    (ab_ck h2 x7 (1, 0)).bind fun a11 =>
    bnd (f_X1_hasVariable a11 p1 h2) fun x8 h9 =>
    if ¬ x8 = 0 then
      (getR h9 (some this) 8 1).bind fun x14 =>
      (getR h9 x1 4 2).bind fun x15 =>
      (ab_ck h9 x14 (7, 0)).bind fun a19 =>
      bnd (f_X7_told a19 x15 p1 h9) fun x16 h17 =>
      some (x16, h17)
    else
      f_X8_state_21 h9
theorem mi_X8_state : ab_MI yX8_state cX8_state 4 (some .long) 2 := ⟨lc_yX8_state, lz_RX8, by decide, by decide, by decide +kernel⟩
set_option maxHeartbeats 4000000 in
set_option maxRecDepth 100000 in
theorem c_X8_state (l : Launch) (D : va_G) (cA : Nat → ClassId) (sz : Nat) {this : Nat} {p0 : Int32} {p1 : Int32} {h hh : Hp} {rr : Int64} (hF : f_X8_state this p0 p1 h = some (rr, hh)) : ab_C l D cA sz yX8_state cX8_state 4 (some .long) 3 0 0 [.ref this, .int p0, .int p1] h (some (.long rr)) hh := by
  refine Met.ofW (cc := cX8_state) (maxL := 4) (ret := (some .long)) (by decide) rfl ?_
  intro p e s m args below meth c s₁ B hml hv
  obtain ⟨rfl, hT, hR⟩ := hv
  have X : ab_X p s m _ meth c cX8_state 4 RX8 D cA sz := (ab_enter B hml hT hR).1
  have S := (ab_enter B hml hT hR).2
  have hr := B.returns
  obtain ⟨ls, hls, hl⟩ := ab_entry m [.ref this, .int p0, .int p1] 4 (lv := [(0, .ref this), (1, .int p0), (2, .int p1)]) (by simp [lg_sl, ab_cat, ab_cI, ab_cJ, ab_cD, ab_cF, ab_cA]) (by simp [lv_args, ab_cat, ab_cI, ab_cJ, ab_cD, ab_cF, ab_cA])
  rw [hls]
  have hl : lv_has ls 4 [(0, va_rf (some this)), (1, .int p0), (2, .int p1)] := hl
  unfold f_X8_state at hF
  show W p l e (ab_rm 3 0 0) s m _ below meth c s.heap [] 0 0 _ _
  refine ab_aload_n X dX8_state_0 rfl (lv_at hl 0 rfl) ?_
  refine lv_iload_n X.1 X.2.1 dX8_state_1 rfl (lv_at hl 1 rfl) ?_
  obtain ⟨a4, e5, hF⟩ := bind_out hF
  obtain ⟨x1, h2, e3, hF⟩ := bnd_out hF
  refine ab_callVa X S e5 (c_X8_runAt l D cA sz e3) rfl (by decide) mi_X8_runAt lm_X8_119 li_yX8_runAt ls_yX8_runAt (As := [.int p0]) (rest := []) rfl ⟨by decide, by decide⟩ ⟨(by decide), (by decide)⟩ hl.1 rfl (by simp [ab_cat, ab_cI, ab_cJ, ab_cD, ab_cF]) dX8_state_2 (fun H1 locs1 S => ?_)
  refine ab_astore_n (i := 3) (lv' := [(3, va_rf x1), (0, va_rf (some this)), (1, .int p0), (2, .int p1)]) X dX8_state_5 rfl hl (by decide) (by simp [ab_cat, ab_cI, ab_cJ, ab_cD, ab_cF]) (fun ls hl => ?_)
  refine ab_aload_n X dX8_state_6 rfl (lv_at hl 0 rfl) ?_
  refine ab_ifnull (tgt := 21) X dX8_state_7 (by decide) (fun c6 => ?_) (fun c6 => ?_)
  · have hF := ab_pos c6 hF
    exact w_X8_state_21 X hr  S (lv_sub hl [] rfl) hF
  · have hF := ab_neg c6 hF
    refine ab_aload_n X dX8_state_10 rfl (lv_at hl 0 rfl) ?_
    refine ab_getR X S hF fi_4_0 lf_X8_92 dX8_state_11 (fun x7 hF => ?_)
    refine lv_iload_n X.1 X.2.1 dX8_state_14 rfl (lv_at hl 3 rfl) ?_
    obtain ⟨a11, e12, hF⟩ := bind_out hF
    obtain ⟨x8, h9, e10, hF⟩ := bnd_out hF
    refine ab_callVi X S e12 (c_X1_hasVariable l D cA sz e10) rfl (by decide) mi_X1_hasVariable lm_X8_83 li_yX1_hasVariable ls_yX1_hasVariable (As := [.int p1]) (rest := []) rfl ⟨by decide, by decide⟩ ⟨(by decide), (by decide)⟩ hl.1 rfl (by simp [ab_cat, ab_cI, ab_cJ, ab_cD, ab_cF]) dX8_state_15 (fun H1 locs1 S => ?_)
    refine lv_if_ne (tgt := 25) X.1 X.2.1 dX8_state_18 (by decide) (fun c13 => ?_) (fun c13 => ?_)
    · have hF := ab_pos c13 hF
      refine ab_aload_n X dX8_state_25 rfl (lv_at hl 1 rfl) ?_
      refine ab_getR X S hF fi_8_1 lf_X8_19 dX8_state_26 (fun x14 hF => ?_)
      refine ab_aload_n X dX8_state_29 rfl (lv_at hl 0 rfl) ?_
      refine ab_getR X S hF fi_4_2 lf_X8_127 dX8_state_30 (fun x15 hF => ?_)
      refine lv_iload_n X.1 X.2.1 dX8_state_33 rfl (lv_at hl 3 rfl) ?_
      obtain ⟨a19, e20, hF⟩ := bind_out hF
      obtain ⟨x16, h17, e18, hF⟩ := bnd_out hF
      refine ab_callVl X S e20 (c_X7_told l D cA sz e18) rfl (by decide) mi_X7_told lm_X8_192 li_yX7_told ls_yX7_told (As := [va_rf x15, .int p1]) (rest := []) rfl ⟨by decide, by decide⟩ ⟨(by decide), (by decide)⟩ hl.1 rfl (by simp [ab_cat, ab_cI, ab_cJ, ab_cD, ab_cF]) dX8_state_34 (fun H1 locs1 S => ?_)
      exact ab_lret X S hr hF dX8_state_37
    · have hF := ab_neg (fun q => q c13) hF
      exact w_X8_state_21 X hr  S (lv_sub hl [] rfl) hF
def f_X8_stage_32   (h : Hp) : Option (Int64 × Hp) :=
  some ((9221120237041090560), h)
set_option maxHeartbeats 4000000 in
set_option maxRecDepth 100000 in
theorem w_X8_stage_32 {p : Program} {l : Launch} {e : Env} {s : State} {m : MethodId} {args : Array Value} {below : List Frame} {meth : Method} {c : Code} {D : va_G} {cA : Nat → ClassId} {sz : Nat} {rr : Int64} {hh : Hp}  (X : ab_X p s m args meth c cX8_stage 6 RX8 D cA sz) (hr : meth.sig.returnType = (some .long))  {H : Heap} {locs : List Loc} {ls : Array Slot}  {h : Hp} (S : ab_H D cA sz h s H locs) (hl : lv_has ls 6 []) (hF : f_X8_stage_32  h = some (rr, hh)) : W p l e (ab_rm 3 0 0) s m args below meth c H locs 0 0 (MQ below (ab_Q D cA sz (some (.long rr)) hh) args s 0 0 (fun q => sz ≤ q)) (F0 m 32 ls []) := by
  unfold f_X8_stage_32 at hF
  refine lv_ldc2 (v := (9221120237041090560)) X.1 X.2.1 X.2.2.2.1 (X.2.2.2.2.1 _ ll_X8_190) dX8_stage_32 ?_
  exact ab_lret X S hr hF dX8_stage_35
def f_X8_stage_89   (h : Hp) : Option (Int64 × Hp) :=
  some ((9221120237041090560), h)
set_option maxHeartbeats 4000000 in
set_option maxRecDepth 100000 in
theorem w_X8_stage_89 {p : Program} {l : Launch} {e : Env} {s : State} {m : MethodId} {args : Array Value} {below : List Frame} {meth : Method} {c : Code} {D : va_G} {cA : Nat → ClassId} {sz : Nat} {rr : Int64} {hh : Hp}  (X : ab_X p s m args meth c cX8_stage 6 RX8 D cA sz) (hr : meth.sig.returnType = (some .long))  {H : Heap} {locs : List Loc} {ls : Array Slot}  {h : Hp} (S : ab_H D cA sz h s H locs) (hl : lv_has ls 6 []) (hF : f_X8_stage_89  h = some (rr, hh)) : W p l e (ab_rm 3 0 0) s m args below meth c H locs 0 0 (MQ below (ab_Q D cA sz (some (.long rr)) hh) args s 0 0 (fun q => sz ≤ q)) (F0 m 89 ls []) := by
  unfold f_X8_stage_89 at hF
  refine lv_ldc2 (v := (9221120237041090560)) X.1 X.2.1 X.2.2.2.1 (X.2.2.2.2.1 _ ll_X8_190) dX8_stage_89 ?_
  exact ab_lret X S hr hF dX8_stage_92
def f_X8_stage_74  (v0 : Option Nat) (v2 : Int32) (v3 : Int32) (v4 : Option Nat) (v5 : Int32) (h : Hp) : Option (Int64 × Hp) :=
  if v2 < 1 then
    f_X8_stage_89 h
  else
    (stg v5).bind fun x2 =>
    if v2 ≤ x2 then
      (getR h v0 8 1).bind fun x4 =>
      (getR h v4 4 11).bind fun x5 =>
      (getR h x5 6 9).bind fun x6 =>
      (aldR h x6 14 (v2 - 1)).bind fun x7 =>
      (ab_ck h x4 (7, 0)).bind fun a11 =>
      bnd (f_X7_told a11 x7 v3 h) fun x8 h9 =>
      some (x8, h9)
    else
      f_X8_stage_89 h
set_option maxHeartbeats 4000000 in
set_option maxRecDepth 100000 in
theorem w_X8_stage_74 {p : Program} {l : Launch} {e : Env} {s : State} {m : MethodId} {args : Array Value} {below : List Frame} {meth : Method} {c : Code} {D : va_G} {cA : Nat → ClassId} {sz : Nat} {rr : Int64} {hh : Hp}  (X : ab_X p s m args meth c cX8_stage 6 RX8 D cA sz) (hr : meth.sig.returnType = (some .long))  {H : Heap} {locs : List Loc} {ls : Array Slot} {v0 : Option Nat} {v2 : Int32} {v3 : Int32} {v4 : Option Nat} {v5 : Int32} {h : Hp} (S : ab_H D cA sz h s H locs) (hl : lv_has ls 6 [(0, va_rf v0), (2, .int v2), (3, .int v3), (4, va_rf v4), (5, .int v5)]) (hF : f_X8_stage_74 v0 v2 v3 v4 v5 h = some (rr, hh)) : W p l e (ab_rm 3 0 0) s m args below meth c H locs 0 0 (MQ below (ab_Q D cA sz (some (.long rr)) hh) args s 0 0 (fun q => sz ≤ q)) (F0 m 74 ls []) := by
  unfold f_X8_stage_74 at hF
  refine lv_iload_n X.1 X.2.1 dX8_stage_74 rfl (lv_at hl 1 rfl) ?_
  refine lv_iconst (v := 1) X.1 X.2.1 dX8_stage_75 (by decide) ?_
  refine lv_icmp_lt (tgt := 89) X.1 X.2.1 dX8_stage_76 (by decide) (fun c1 => ?_) (fun c1 => ?_)
  · have hF := ab_pos c1 hF
    exact w_X8_stage_89 X hr  S (lv_sub hl [] rfl) hF
  · have hF := ab_neg c1 hF
    refine lv_iload_n X.1 X.2.1 dX8_stage_79 rfl (lv_at hl 1 rfl) ?_
    obtain ⟨tST, hZ, hTT⟩ := X.2.2.2.2.2.1.2.1
    refine va_gets X.1 X.2.1 hZ S.2 X.2.2.2.1 (X.2.2.2.2.1 _ lf_X8_231) (fun x h => h) dX8_stage_80 ?_
    refine lv_iload X.1 X.2.1 dX8_stage_83 (lv_at hl 4 rfl) ?_
    refine ab_stga X S hF hTT dX8_stage_85 (fun x2 hF => ?_)
    refine lv_icmp_le (tgt := 93) X.1 X.2.1 dX8_stage_86 (by decide) (fun c3 => ?_) (fun c3 => ?_)
    · have hF := ab_pos c3 hF
      refine ab_aload_n X dX8_stage_93 rfl (lv_at hl 0 rfl) ?_
      refine ab_getR X S hF fi_8_1 lf_X8_19 dX8_stage_94 (fun x4 hF => ?_)
      refine ab_aload X dX8_stage_97 (lv_at hl 3 rfl) ?_
      refine ab_getR X S hF fi_4_11 lf_X8_200 dX8_stage_99 (fun x5 hF => ?_)
      refine ab_getR X S hF fi_6_9 lf_X8_235 dX8_stage_102 (fun x6 hF => ?_)
      refine lv_iload_n X.1 X.2.1 dX8_stage_105 rfl (lv_at hl 1 rfl) ?_
      refine lv_iconst (v := 1) X.1 X.2.1 dX8_stage_106 (by decide) ?_
      refine lv_isub X.1 X.2.1 dX8_stage_107 ?_
      refine ab_aldR X S hF rfl (by decide) dX8_stage_108 (fun x7 hF => ?_)
      refine lv_iload_n X.1 X.2.1 dX8_stage_109 rfl (lv_at hl 2 rfl) ?_
      obtain ⟨a11, e12, hF⟩ := bind_out hF
      obtain ⟨x8, h9, e10, hF⟩ := bnd_out hF
      refine ab_callVl X S e12 (c_X7_told l D cA sz e10) rfl (by decide) mi_X7_told lm_X8_192 li_yX7_told ls_yX7_told (As := [va_rf x7, .int v3]) (rest := []) rfl ⟨by decide, by decide⟩ ⟨(by decide), (by decide)⟩ hl.1 rfl (by simp [ab_cat, ab_cI, ab_cJ, ab_cD, ab_cF]) dX8_stage_110 (fun H1 locs1 S => ?_)
      exact ab_lret X S hr hF dX8_stage_113
    · have hF := ab_neg c3 hF
      exact w_X8_stage_89 X hr  S (lv_sub hl [] rfl) hF
def f_X8_stage (this : Nat) (p0 : Int32) (p1 : Int32) (p2 : Int32) (h : Hp) : Option (Int64 × Hp) :=
  (ab_ck h (some this) (8, 0)).bind fun a4 =>
  bnd (f_X8_runAt a4 p0 h) fun x1 h2 =>
  if x1 = none then
    f_X8_stage_32 h2
  else
    (getR h2 x1 4 0).bind fun x7 =>
    (ab_ck h2 x7 (1, 0)).bind fun a11 =>
    bnd (f_X1_hasVariable a11 p2 h2) fun x8 h9 =>
    if x8 = 0 then
      f_X8_stage_32 h9
    else
      (getI h9 x1 4 8).bind fun x14 =>
      if ¬ x14 = 0 then
        (getR h9 x1 4 11).bind fun x16 =>
        (getI h9 x16 6 2).bind fun x17 =>
        if ¬ p1 = 5 then
          f_X8_stage_74 (some this) p1 p2 x1 x17 h9
        else
          if ¬ x17 = 4 then
            f_X8_stage_74 (some this) p1 p2 x1 x17 h9
          else
            (getR h9 (some this) 8 1).bind fun x20 =>
            (getR h9 x1 4 11).bind fun x21 =>
            (getR h9 x21 6 10).bind fun x22 =>
            (ab_ck h9 x20 (7, 0)).bind fun a26 =>
            bnd (f_X7_told a26 x22 p2 h9) fun x23 h24 =>
            some (x23, h24)
      else
        f_X8_stage_32 h9
theorem mi_X8_stage : ab_MI yX8_stage cX8_stage 6 (some .long) 3 := ⟨lc_yX8_stage, lz_RX8, by decide, by decide, by decide +kernel⟩
set_option maxHeartbeats 4000000 in
set_option maxRecDepth 100000 in
theorem c_X8_stage (l : Launch) (D : va_G) (cA : Nat → ClassId) (sz : Nat) {this : Nat} {p0 : Int32} {p1 : Int32} {p2 : Int32} {h hh : Hp} {rr : Int64} (hF : f_X8_stage this p0 p1 p2 h = some (rr, hh)) : ab_C l D cA sz yX8_stage cX8_stage 6 (some .long) 3 0 0 [.ref this, .int p0, .int p1, .int p2] h (some (.long rr)) hh := by
  refine Met.ofW (cc := cX8_stage) (maxL := 6) (ret := (some .long)) (by decide) rfl ?_
  intro p e s m args below meth c s₁ B hml hv
  obtain ⟨rfl, hT, hR⟩ := hv
  have X : ab_X p s m _ meth c cX8_stage 6 RX8 D cA sz := (ab_enter B hml hT hR).1
  have S := (ab_enter B hml hT hR).2
  have hr := B.returns
  obtain ⟨ls, hls, hl⟩ := ab_entry m [.ref this, .int p0, .int p1, .int p2] 6 (lv := [(0, .ref this), (1, .int p0), (2, .int p1), (3, .int p2)]) (by simp [lg_sl, ab_cat, ab_cI, ab_cJ, ab_cD, ab_cF, ab_cA]) (by simp [lv_args, ab_cat, ab_cI, ab_cJ, ab_cD, ab_cF, ab_cA])
  rw [hls]
  have hl : lv_has ls 6 [(0, va_rf (some this)), (1, .int p0), (2, .int p1), (3, .int p2)] := hl
  unfold f_X8_stage at hF
  show W p l e (ab_rm 3 0 0) s m _ below meth c s.heap [] 0 0 _ _
  refine ab_aload_n X dX8_stage_0 rfl (lv_at hl 0 rfl) ?_
  refine lv_iload_n X.1 X.2.1 dX8_stage_1 rfl (lv_at hl 1 rfl) ?_
  obtain ⟨a4, e5, hF⟩ := bind_out hF
  obtain ⟨x1, h2, e3, hF⟩ := bnd_out hF
  refine ab_callVa X S e5 (c_X8_runAt l D cA sz e3) rfl (by decide) mi_X8_runAt lm_X8_119 li_yX8_runAt ls_yX8_runAt (As := [.int p0]) (rest := []) rfl ⟨by decide, by decide⟩ ⟨(by decide), (by decide)⟩ hl.1 rfl (by simp [ab_cat, ab_cI, ab_cJ, ab_cD, ab_cF]) dX8_stage_2 (fun H1 locs1 S => ?_)
  refine ab_astore (lv' := [(4, va_rf x1), (0, va_rf (some this)), (1, .int p0), (2, .int p1), (3, .int p2)]) X dX8_stage_5 hl (by decide) (by simp [ab_cat, ab_cI, ab_cJ, ab_cD, ab_cF]) (fun ls hl => ?_)
  refine ab_aload X dX8_stage_7 (lv_at hl 0 rfl) ?_
  refine ab_ifnull (tgt := 32) X dX8_stage_9 (by decide) (fun c6 => ?_) (fun c6 => ?_)
  · have hF := ab_pos c6 hF
    exact w_X8_stage_32 X hr  S (lv_sub hl [] rfl) hF
  · have hF := ab_neg c6 hF
    refine ab_aload X dX8_stage_12 (lv_at hl 0 rfl) ?_
    refine ab_getR X S hF fi_4_0 lf_X8_92 dX8_stage_14 (fun x7 hF => ?_)
    refine lv_iload_n X.1 X.2.1 dX8_stage_17 rfl (lv_at hl 4 rfl) ?_
    obtain ⟨a11, e12, hF⟩ := bind_out hF
    obtain ⟨x8, h9, e10, hF⟩ := bnd_out hF
    refine ab_callVi X S e12 (c_X1_hasVariable l D cA sz e10) rfl (by decide) mi_X1_hasVariable lm_X8_83 li_yX1_hasVariable ls_yX1_hasVariable (As := [.int p2]) (rest := []) rfl ⟨by decide, by decide⟩ ⟨(by decide), (by decide)⟩ hl.1 rfl (by simp [ab_cat, ab_cI, ab_cJ, ab_cD, ab_cF]) dX8_stage_18 (fun H1 locs1 S => ?_)
    refine lv_if_eq (tgt := 32) X.1 X.2.1 dX8_stage_21 (by decide) (fun c13 => ?_) (fun c13 => ?_)
    · have hF := ab_pos c13 hF
      exact w_X8_stage_32 X hr  S (lv_sub hl [] rfl) hF
    · have hF := ab_neg c13 hF
      refine ab_aload X dX8_stage_24 (lv_at hl 0 rfl) ?_
      refine ab_getI X S hF fi_4_8 lf_X8_212 dX8_stage_26 (fun x14 hF => ?_)
      refine lv_if_ne (tgt := 36) X.1 X.2.1 dX8_stage_29 (by decide) (fun c15 => ?_) (fun c15 => ?_)
      · have hF := ab_pos c15 hF
        refine ab_aload X dX8_stage_36 (lv_at hl 0 rfl) ?_
        refine ab_getR X S hF fi_4_11 lf_X8_200 dX8_stage_38 (fun x16 hF => ?_)
        refine ab_getI X S hF fi_6_2 lf_X8_227 dX8_stage_41 (fun x17 hF => ?_)
        refine lv_istore (lv' := [(5, .int x17), (4, va_rf x1), (0, va_rf (some this)), (1, .int p0), (2, .int p1), (3, .int p2)]) X.1 X.2.1 dX8_stage_44 hl (by decide) (by simp [ab_cat, ab_cI, ab_cJ, ab_cD, ab_cF]) (fun ls hl => ?_)
        refine lv_iload_n X.1 X.2.1 dX8_stage_46 rfl (lv_at hl 4 rfl) ?_
        refine lv_iconst (v := 5) X.1 X.2.1 dX8_stage_47 (by decide) ?_
        refine lv_icmp_ne (tgt := 74) X.1 X.2.1 dX8_stage_48 (by decide) (fun c18 => ?_) (fun c18 => ?_)
        · have hF := ab_pos c18 hF
          exact w_X8_stage_74 X hr  S (lv_sub hl [2, 4, 5, 1, 0] rfl) hF
        · have hF := ab_neg (fun q => q c18) hF
          refine lv_iload X.1 X.2.1 dX8_stage_51 (lv_at hl 0 rfl) ?_
          refine lv_iconst (v := 4) X.1 X.2.1 dX8_stage_53 (by decide) ?_
          refine lv_icmp_ne (tgt := 74) X.1 X.2.1 dX8_stage_54 (by decide) (fun c19 => ?_) (fun c19 => ?_)
          · have hF := ab_pos c19 hF
            exact w_X8_stage_74 X hr  S (lv_sub hl [2, 4, 5, 1, 0] rfl) hF
          · have hF := ab_neg (fun q => q c19) hF
            refine ab_aload_n X dX8_stage_57 rfl (lv_at hl 2 rfl) ?_
            refine ab_getR X S hF fi_8_1 lf_X8_19 dX8_stage_58 (fun x20 hF => ?_)
            refine ab_aload X dX8_stage_61 (lv_at hl 1 rfl) ?_
            refine ab_getR X S hF fi_4_11 lf_X8_200 dX8_stage_63 (fun x21 hF => ?_)
            refine ab_getR X S hF fi_6_10 lf_X8_228 dX8_stage_66 (fun x22 hF => ?_)
            refine lv_iload_n X.1 X.2.1 dX8_stage_69 rfl (lv_at hl 5 rfl) ?_
            obtain ⟨a26, e27, hF⟩ := bind_out hF
            obtain ⟨x23, h24, e25, hF⟩ := bnd_out hF
            refine ab_callVl X S e27 (c_X7_told l D cA sz e25) rfl (by decide) mi_X7_told lm_X8_192 li_yX7_told ls_yX7_told (As := [va_rf x22, .int p2]) (rest := []) rfl ⟨by decide, by decide⟩ ⟨(by decide), (by decide)⟩ hl.1 rfl (by simp [ab_cat, ab_cI, ab_cJ, ab_cD, ab_cF]) dX8_stage_70 (fun H1 locs1 S => ?_)
            exact ab_lret X S hr hF dX8_stage_73
      · have hF := ab_neg (fun q => q c15) hF
        exact w_X8_stage_32 X hr  S (lv_sub hl [] rfl) hF
def f_X8_value_21   (h : Hp) : Option (Int64 × Hp) :=
  some ((9221120237041090560), h)
set_option maxHeartbeats 4000000 in
set_option maxRecDepth 100000 in
theorem w_X8_value_21 {p : Program} {l : Launch} {e : Env} {s : State} {m : MethodId} {args : Array Value} {below : List Frame} {meth : Method} {c : Code} {D : va_G} {cA : Nat → ClassId} {sz : Nat} {rr : Int64} {hh : Hp}  (X : ab_X p s m args meth c cX8_value 4 RX8 D cA sz) (hr : meth.sig.returnType = (some .long))  {H : Heap} {locs : List Loc} {ls : Array Slot}  {h : Hp} (S : ab_H D cA sz h s H locs) (hl : lv_has ls 4 []) (hF : f_X8_value_21  h = some (rr, hh)) : W p l e (ab_rm 3 0 0) s m args below meth c H locs 0 0 (MQ below (ab_Q D cA sz (some (.long rr)) hh) args s 0 0 (fun q => sz ≤ q)) (F0 m 21 ls []) := by
  unfold f_X8_value_21 at hF
  refine lv_ldc2 (v := (9221120237041090560)) X.1 X.2.1 X.2.2.2.1 (X.2.2.2.2.1 _ ll_X8_190) dX8_value_21 ?_
  exact ab_lret X S hr hF dX8_value_24
def f_X8_value (this : Nat) (p0 : Int32) (p1 : Int32) (h : Hp) : Option (Int64 × Hp) :=
  (ab_ck h (some this) (8, 0)).bind fun a4 =>
  bnd (f_X8_runAt a4 p0 h) fun x1 h2 =>
  if x1 = none then
    f_X8_value_21 h2
  else
    (getR h2 x1 4 0).bind fun x7 =>
    (ab_ck h2 x7 (1, 0)).bind fun a11 =>
    bnd (f_X1_hasNode a11 p1 h2) fun x8 h9 =>
    if ¬ x8 = 0 then
      (getR h9 x1 4 0).bind fun x14 =>
      (getD h9 x1 4 1).bind fun x15 =>
      (getR h9 x1 4 2).bind fun x16 =>
      (ab_ck h9 x14 (1, 0)).bind fun a20 =>
      bnd (f_X1_reckonNodes a20 x15 x16 (p1 + 1) h9) fun _ h18 =>
      (getR h18 (some this) 8 1).bind fun x22 =>
      (getR h18 x1 4 0).bind fun x23 =>
      (getR h18 x23 1 13).bind fun x24 =>
      (ab_ck h18 x22 (7, 0)).bind fun a28 =>
      bnd (f_X7_told a28 x24 p1 h18) fun x25 h26 =>
      some (x25, h26)
    else
      f_X8_value_21 h9
theorem mi_X8_value : ab_MI yX8_value cX8_value 4 (some .long) 2 := ⟨lc_yX8_value, lz_RX8, by decide, by decide, by decide +kernel⟩
set_option maxHeartbeats 4000000 in
set_option maxRecDepth 100000 in
theorem c_X8_value (l : Launch) (D : va_G) (cA : Nat → ClassId) (sz : Nat) {this : Nat} {p0 : Int32} {p1 : Int32} {h hh : Hp} {rr : Int64} (hF : f_X8_value this p0 p1 h = some (rr, hh)) : ab_C l D cA sz yX8_value cX8_value 4 (some .long) 3 0 0 [.ref this, .int p0, .int p1] h (some (.long rr)) hh := by
  refine Met.ofW (cc := cX8_value) (maxL := 4) (ret := (some .long)) (by decide) rfl ?_
  intro p e s m args below meth c s₁ B hml hv
  obtain ⟨rfl, hT, hR⟩ := hv
  have X : ab_X p s m _ meth c cX8_value 4 RX8 D cA sz := (ab_enter B hml hT hR).1
  have S := (ab_enter B hml hT hR).2
  have hr := B.returns
  obtain ⟨ls, hls, hl⟩ := ab_entry m [.ref this, .int p0, .int p1] 4 (lv := [(0, .ref this), (1, .int p0), (2, .int p1)]) (by simp [lg_sl, ab_cat, ab_cI, ab_cJ, ab_cD, ab_cF, ab_cA]) (by simp [lv_args, ab_cat, ab_cI, ab_cJ, ab_cD, ab_cF, ab_cA])
  rw [hls]
  have hl : lv_has ls 4 [(0, va_rf (some this)), (1, .int p0), (2, .int p1)] := hl
  unfold f_X8_value at hF
  show W p l e (ab_rm 3 0 0) s m _ below meth c s.heap [] 0 0 _ _
  refine ab_aload_n X dX8_value_0 rfl (lv_at hl 0 rfl) ?_
  refine lv_iload_n X.1 X.2.1 dX8_value_1 rfl (lv_at hl 1 rfl) ?_
  obtain ⟨a4, e5, hF⟩ := bind_out hF
  obtain ⟨x1, h2, e3, hF⟩ := bnd_out hF
  refine ab_callVa X S e5 (c_X8_runAt l D cA sz e3) rfl (by decide) mi_X8_runAt lm_X8_119 li_yX8_runAt ls_yX8_runAt (As := [.int p0]) (rest := []) rfl ⟨by decide, by decide⟩ ⟨(by decide), (by decide)⟩ hl.1 rfl (by simp [ab_cat, ab_cI, ab_cJ, ab_cD, ab_cF]) dX8_value_2 (fun H1 locs1 S => ?_)
  refine ab_astore_n (i := 3) (lv' := [(3, va_rf x1), (0, va_rf (some this)), (1, .int p0), (2, .int p1)]) X dX8_value_5 rfl hl (by decide) (by simp [ab_cat, ab_cI, ab_cJ, ab_cD, ab_cF]) (fun ls hl => ?_)
  refine ab_aload_n X dX8_value_6 rfl (lv_at hl 0 rfl) ?_
  refine ab_ifnull (tgt := 21) X dX8_value_7 (by decide) (fun c6 => ?_) (fun c6 => ?_)
  · have hF := ab_pos c6 hF
    exact w_X8_value_21 X hr  S (lv_sub hl [] rfl) hF
  · have hF := ab_neg c6 hF
    refine ab_aload_n X dX8_value_10 rfl (lv_at hl 0 rfl) ?_
    refine ab_getR X S hF fi_4_0 lf_X8_92 dX8_value_11 (fun x7 hF => ?_)
    refine lv_iload_n X.1 X.2.1 dX8_value_14 rfl (lv_at hl 3 rfl) ?_
    obtain ⟨a11, e12, hF⟩ := bind_out hF
    obtain ⟨x8, h9, e10, hF⟩ := bnd_out hF
    refine ab_callVi X S e12 (c_X1_hasNode l D cA sz e10) rfl (by decide) mi_X1_hasNode lm_X8_86 li_yX1_hasNode ls_yX1_hasNode (As := [.int p1]) (rest := []) rfl ⟨by decide, by decide⟩ ⟨(by decide), (by decide)⟩ hl.1 rfl (by simp [ab_cat, ab_cI, ab_cJ, ab_cD, ab_cF]) dX8_value_15 (fun H1 locs1 S => ?_)
    refine lv_if_ne (tgt := 25) X.1 X.2.1 dX8_value_18 (by decide) (fun c13 => ?_) (fun c13 => ?_)
    · have hF := ab_pos c13 hF
      refine ab_aload_n X dX8_value_25 rfl (lv_at hl 0 rfl) ?_
      refine ab_getR X S hF fi_4_0 lf_X8_92 dX8_value_26 (fun x14 hF => ?_)
      refine ab_aload_n X dX8_value_29 rfl (lv_at hl 0 rfl) ?_
      refine ab_getD X S hF fi_4_1 lf_X8_179 dX8_value_30 (fun x15 hF => ?_)
      refine ab_aload_n X dX8_value_33 rfl (lv_at hl 0 rfl) ?_
      refine ab_getR X S hF fi_4_2 lf_X8_127 dX8_value_34 (fun x16 hF => ?_)
      refine lv_iload_n X.1 X.2.1 dX8_value_37 rfl (lv_at hl 3 rfl) ?_
      refine lv_iconst (v := 1) X.1 X.2.1 dX8_value_38 (by decide) ?_
      refine lv_iadd X.1 X.2.1 dX8_value_39 ?_
      obtain ⟨a20, e21, hF⟩ := bind_out hF
      obtain ⟨x17, h18, e19, hF⟩ := bnd_out hF
      refine ab_callVv X S e21 (c_X1_reckonNodes l D cA sz e19) rfl (by decide) mi_X1_reckonNodes lm_X8_239 li_yX1_reckonNodes ls_yX1_reckonNodes (As := [.double x15, va_rf x16, .int (p1 + 1)]) (rest := []) rfl ⟨by decide, by decide⟩ ⟨(by decide), (by decide)⟩ hl.1 rfl (by simp [ab_cat, ab_cI, ab_cJ, ab_cD, ab_cF]) dX8_value_40 (fun H1 locs1 S => ?_)
      refine ab_aload_n X dX8_value_43 rfl (lv_at hl 1 rfl) ?_
      refine ab_getR X S hF fi_8_1 lf_X8_19 dX8_value_44 (fun x22 hF => ?_)
      refine ab_aload_n X dX8_value_47 rfl (lv_at hl 0 rfl) ?_
      refine ab_getR X S hF fi_4_0 lf_X8_92 dX8_value_48 (fun x23 hF => ?_)
      refine ab_getR X S hF fi_1_13 lf_X8_243 dX8_value_51 (fun x24 hF => ?_)
      refine lv_iload_n X.1 X.2.1 dX8_value_54 rfl (lv_at hl 3 rfl) ?_
      obtain ⟨a28, e29, hF⟩ := bind_out hF
      obtain ⟨x25, h26, e27, hF⟩ := bnd_out hF
      refine ab_callVl X S e29 (c_X7_told l D cA sz e27) rfl (by decide) mi_X7_told lm_X8_192 li_yX7_told ls_yX7_told (As := [va_rf x24, .int p1]) (rest := []) rfl ⟨by decide, by decide⟩ ⟨(by decide), (by decide)⟩ hl.1 rfl (by simp [ab_cat, ab_cI, ab_cJ, ab_cD, ab_cF]) dX8_value_55 (fun H1 locs1 S => ?_)
      exact ab_lret X S hr hF dX8_value_58
    · have hF := ab_neg (fun q => q c13) hF
      exact w_X8_value_21 X hr  S (lv_sub hl [] rfl) hF
def f_X8_between_40   (h : Hp) : Option (Int64 × Hp) :=
  some ((9221120237041090560), h)
set_option maxHeartbeats 4000000 in
set_option maxRecDepth 100000 in
theorem w_X8_between_40 {p : Program} {l : Launch} {e : Env} {s : State} {m : MethodId} {args : Array Value} {below : List Frame} {meth : Method} {c : Code} {D : va_G} {cA : Nat → ClassId} {sz : Nat} {rr : Int64} {hh : Hp}  (X : ab_X p s m args meth c cX8_between 9 RX8 D cA sz) (hr : meth.sig.returnType = (some .long))  {H : Heap} {locs : List Loc} {ls : Array Slot}  {h : Hp} (S : ab_H D cA sz h s H locs) (hl : lv_has ls 9 []) (hF : f_X8_between_40  h = some (rr, hh)) : W p l e (ab_rm 3 0 0) s m args below meth c H locs 0 0 (MQ below (ab_Q D cA sz (some (.long rr)) hh) args s 0 0 (fun q => sz ≤ q)) (F0 m 40 ls []) := by
  unfold f_X8_between_40 at hF
  refine lv_ldc2 (v := (9221120237041090560)) X.1 X.2.1 X.2.2.2.1 (X.2.2.2.2.1 _ ll_X8_190) dX8_between_40 ?_
  exact ab_lret X S hr hF dX8_between_43
def f_X8_between_66   (h : Hp) : Option (Int64 × Hp) :=
  some ((9221120237041090560), h)
set_option maxHeartbeats 4000000 in
set_option maxRecDepth 100000 in
theorem w_X8_between_66 {p : Program} {l : Launch} {e : Env} {s : State} {m : MethodId} {args : Array Value} {below : List Frame} {meth : Method} {c : Code} {D : va_G} {cA : Nat → ClassId} {sz : Nat} {rr : Int64} {hh : Hp}  (X : ab_X p s m args meth c cX8_between 9 RX8 D cA sz) (hr : meth.sig.returnType = (some .long))  {H : Heap} {locs : List Loc} {ls : Array Slot}  {h : Hp} (S : ab_H D cA sz h s H locs) (hl : lv_has ls 9 []) (hF : f_X8_between_66  h = some (rr, hh)) : W p l e (ab_rm 3 0 0) s m args below meth c H locs 0 0 (MQ below (ab_Q D cA sz (some (.long rr)) hh) args s 0 0 (fun q => sz ≤ q)) (F0 m 66 ls []) := by
  unfold f_X8_between_66 at hF
  refine lv_ldc2 (v := (9221120237041090560)) X.1 X.2.1 X.2.2.2.1 (X.2.2.2.2.1 _ ll_X8_190) dX8_between_66 ?_
  exact ab_lret X S hr hF dX8_between_69
def f_X8_between (this : Nat) (p0 : Int32) (p1 : Int32) (p2 : Int64) (p3 : Int32) (h : Hp) : Option (Int64 × Hp) :=
  (ab_ck h (some this) (8, 0)).bind fun a4 =>
  bnd (f_X8_runAt a4 p0 h) fun x1 h2 =>
  if x1 = none then
    f_X8_between_40 h2
  else
    (getR h2 x1 4 0).bind fun x7 =>
    (ab_ck h2 x7 (1, 0)).bind fun a11 =>
    bnd (f_X1_hasVariable a11 p1 h2) fun x8 h9 =>
    if x8 = 0 then
      f_X8_between_40 h9
    else
      (getI h9 x1 4 8).bind fun x14 =>
      if x14 = 0 then
        f_X8_between_40 h9
      else
        bnd (f_X8_isK p3 h9) fun x16 h17 =>
        if ¬ x16 = 0 then
          bnd (f_X8_quotient p2 p3 h17) fun x20 h21 =>
          if (Op.cmpValue (FP.dcmp x20 FP.dconst0) CmpOp.g) < 0 then
            f_X8_between_66 h21
          else
            if (Op.cmpValue (FP.dcmp x20 FP.dconst1) CmpOp.l) ≤ 0 then
              (getR h21 x1 4 11).bind fun x25 =>
              (ab_ck h21 x25 (6, 0)).bind fun a29 =>
              bnd (f_X6_blend a29 p1 x20 h21) fun _ h27 =>
              (getR h27 (some this) 8 1).bind fun x31 =>
              (getR h27 x1 4 11).bind fun x32 =>
              (getR h27 x32 6 7).bind fun x33 =>
              (ab_ck h27 x31 (7, 0)).bind fun a37 =>
              bnd (f_X7_told a37 x33 p1 h27) fun x34 h35 =>
              some (x34, h35)
            else
              f_X8_between_66 h21
        else
          f_X8_between_40 h17
theorem mi_X8_between : ab_MI yX8_between cX8_between 9 (some .long) 4 := ⟨lc_yX8_between, lz_RX8, by decide, by decide, by decide +kernel⟩
set_option maxHeartbeats 4000000 in
set_option maxRecDepth 100000 in
theorem c_X8_between (l : Launch) (D : va_G) (cA : Nat → ClassId) (sz : Nat) {this : Nat} {p0 : Int32} {p1 : Int32} {p2 : Int64} {p3 : Int32} {h hh : Hp} {rr : Int64} (hF : f_X8_between this p0 p1 p2 p3 h = some (rr, hh)) : ab_C l D cA sz yX8_between cX8_between 9 (some .long) 3 0 0 [.ref this, .int p0, .int p1, .long p2, .int p3] h (some (.long rr)) hh := by
  refine Met.ofW (cc := cX8_between) (maxL := 9) (ret := (some .long)) (by decide) rfl ?_
  intro p e s m args below meth c s₁ B hml hv
  obtain ⟨rfl, hT, hR⟩ := hv
  have X : ab_X p s m _ meth c cX8_between 9 RX8 D cA sz := (ab_enter B hml hT hR).1
  have S := (ab_enter B hml hT hR).2
  have hr := B.returns
  obtain ⟨ls, hls, hl⟩ := ab_entry m [.ref this, .int p0, .int p1, .long p2, .int p3] 9 (lv := [(0, .ref this), (1, .int p0), (2, .int p1), (3, .long p2), (5, .int p3)]) (by simp [lg_sl, ab_cat, ab_cI, ab_cJ, ab_cD, ab_cF, ab_cA]) (by simp [lv_args, ab_cat, ab_cI, ab_cJ, ab_cD, ab_cF, ab_cA])
  rw [hls]
  have hl : lv_has ls 9 [(0, va_rf (some this)), (1, .int p0), (2, .int p1), (3, .long p2), (5, .int p3)] := hl
  unfold f_X8_between at hF
  show W p l e (ab_rm 3 0 0) s m _ below meth c s.heap [] 0 0 _ _
  refine ab_aload_n X dX8_between_0 rfl (lv_at hl 0 rfl) ?_
  refine lv_iload_n X.1 X.2.1 dX8_between_1 rfl (lv_at hl 1 rfl) ?_
  obtain ⟨a4, e5, hF⟩ := bind_out hF
  obtain ⟨x1, h2, e3, hF⟩ := bnd_out hF
  refine ab_callVa X S e5 (c_X8_runAt l D cA sz e3) rfl (by decide) mi_X8_runAt lm_X8_119 li_yX8_runAt ls_yX8_runAt (As := [.int p0]) (rest := []) rfl ⟨by decide, by decide⟩ ⟨(by decide), (by decide)⟩ hl.1 rfl (by simp [ab_cat, ab_cI, ab_cJ, ab_cD, ab_cF]) dX8_between_2 (fun H1 locs1 S => ?_)
  refine ab_astore (lv' := [(6, va_rf x1), (0, va_rf (some this)), (1, .int p0), (2, .int p1), (3, .long p2), (5, .int p3)]) X dX8_between_5 hl (by decide) (by simp [ab_cat, ab_cI, ab_cJ, ab_cD, ab_cF]) (fun ls hl => ?_)
  refine ab_aload X dX8_between_7 (lv_at hl 0 rfl) ?_
  refine ab_ifnull (tgt := 40) X dX8_between_9 (by decide) (fun c6 => ?_) (fun c6 => ?_)
  · have hF := ab_pos c6 hF
    exact w_X8_between_40 X hr  S (lv_sub hl [] rfl) hF
  · have hF := ab_neg c6 hF
    refine ab_aload X dX8_between_12 (lv_at hl 0 rfl) ?_
    refine ab_getR X S hF fi_4_0 lf_X8_92 dX8_between_14 (fun x7 hF => ?_)
    refine lv_iload_n X.1 X.2.1 dX8_between_17 rfl (lv_at hl 3 rfl) ?_
    obtain ⟨a11, e12, hF⟩ := bind_out hF
    obtain ⟨x8, h9, e10, hF⟩ := bnd_out hF
    refine ab_callVi X S e12 (c_X1_hasVariable l D cA sz e10) rfl (by decide) mi_X1_hasVariable lm_X8_83 li_yX1_hasVariable ls_yX1_hasVariable (As := [.int p1]) (rest := []) rfl ⟨by decide, by decide⟩ ⟨(by decide), (by decide)⟩ hl.1 rfl (by simp [ab_cat, ab_cI, ab_cJ, ab_cD, ab_cF]) dX8_between_18 (fun H1 locs1 S => ?_)
    refine lv_if_eq (tgt := 40) X.1 X.2.1 dX8_between_21 (by decide) (fun c13 => ?_) (fun c13 => ?_)
    · have hF := ab_pos c13 hF
      exact w_X8_between_40 X hr  S (lv_sub hl [] rfl) hF
    · have hF := ab_neg c13 hF
      refine ab_aload X dX8_between_24 (lv_at hl 0 rfl) ?_
      refine ab_getI X S hF fi_4_8 lf_X8_212 dX8_between_26 (fun x14 hF => ?_)
      refine lv_if_eq (tgt := 40) X.1 X.2.1 dX8_between_29 (by decide) (fun c15 => ?_) (fun c15 => ?_)
      · have hF := ab_pos c15 hF
        exact w_X8_between_40 X hr  S (lv_sub hl [] rfl) hF
      · have hF := ab_neg c15 hF
        refine lv_iload X.1 X.2.1 dX8_between_32 (lv_at hl 5 rfl) ?_
        obtain ⟨x16, h17, e18, hF⟩ := bnd_out hF
        refine ab_callSi X S (c_X8_isK l D cA sz e18) mi_X8_isK lm_X8_67 lt_yX8_isK (As := [.int p3]) (rest := []) rfl ⟨by decide, by decide⟩ ⟨(by decide), (by decide)⟩ hl.1 rfl (by simp [ab_cat, ab_cI, ab_cJ, ab_cD, ab_cF]) dX8_between_34 (fun H1 locs1 S => ?_)
        refine lv_if_ne (tgt := 44) X.1 X.2.1 dX8_between_37 (by decide) (fun c19 => ?_) (fun c19 => ?_)
        · have hF := ab_pos c19 hF
          refine lv_lload_n X.1 X.2.1 dX8_between_44 rfl (lv_at hl 4 rfl) ?_
          refine lv_iload X.1 X.2.1 dX8_between_45 (lv_at hl 5 rfl) ?_
          obtain ⟨x20, h21, e22, hF⟩ := bnd_out hF
          refine ab_callSd X S (c_X8_quotient l D cA sz e22) mi_X8_quotient lm_X8_71 lt_yX8_quotient (As := [.long p2, .int p3]) (rest := []) rfl ⟨by decide, by decide⟩ ⟨(by decide), (by decide)⟩ hl.1 rfl (by simp [ab_cat, ab_cI, ab_cJ, ab_cD, ab_cF]) dX8_between_47 (fun H1 locs1 S => ?_)
          refine lv_dstore (lv' := [(7, .double x20), (6, va_rf x1), (0, va_rf (some this)), (1, .int p0), (2, .int p1), (3, .long p2), (5, .int p3)]) X.1 X.2.1 dX8_between_50 hl (by decide) (by simp [ab_cat, ab_cI, ab_cJ, ab_cD, ab_cF]) (fun ls hl => ?_)
          refine lv_dload X.1 X.2.1 dX8_between_52 (lv_at hl 0 rfl) ?_
          refine lv_dconst0 X.1 X.2.1 dX8_between_54 ?_
          refine lv_dcmp X.1 X.2.1 dX8_between_55 ?_
          refine lv_if_lt (tgt := 66) X.1 X.2.1 dX8_between_56 (by decide) (fun c23 => ?_) (fun c23 => ?_)
          · have hF := ab_pos c23 hF
            exact w_X8_between_66 X hr  S (lv_sub hl [] rfl) hF
          · have hF := ab_neg c23 hF
            refine lv_dload X.1 X.2.1 dX8_between_59 (lv_at hl 0 rfl) ?_
            refine lv_dconst1 X.1 X.2.1 dX8_between_61 ?_
            refine lv_dcmp X.1 X.2.1 dX8_between_62 ?_
            refine lv_if_le (tgt := 70) X.1 X.2.1 dX8_between_63 (by decide) (fun c24 => ?_) (fun c24 => ?_)
            · have hF := ab_pos c24 hF
              refine ab_aload X dX8_between_70 (lv_at hl 1 rfl) ?_
              refine ab_getR X S hF fi_4_11 lf_X8_200 dX8_between_72 (fun x25 hF => ?_)
              refine lv_iload_n X.1 X.2.1 dX8_between_75 rfl (lv_at hl 4 rfl) ?_
              refine lv_dload X.1 X.2.1 dX8_between_76 (lv_at hl 0 rfl) ?_
              obtain ⟨a29, e30, hF⟩ := bind_out hF
              obtain ⟨x26, h27, e28, hF⟩ := bnd_out hF
              refine ab_callVv X S e30 (c_X6_blend l D cA sz e28) rfl (by decide) mi_X6_blend lm_X8_246 li_yX6_blend ls_yX6_blend (As := [.int p1, .double x20]) (rest := []) rfl ⟨by decide, by decide⟩ ⟨(by decide), (by decide)⟩ hl.1 rfl (by simp [ab_cat, ab_cI, ab_cJ, ab_cD, ab_cF]) dX8_between_78 (fun H1 locs1 S => ?_)
              refine ab_aload_n X dX8_between_81 rfl (lv_at hl 2 rfl) ?_
              refine ab_getR X S hF fi_8_1 lf_X8_19 dX8_between_82 (fun x31 hF => ?_)
              refine ab_aload X dX8_between_85 (lv_at hl 1 rfl) ?_
              refine ab_getR X S hF fi_4_11 lf_X8_200 dX8_between_87 (fun x32 hF => ?_)
              refine ab_getR X S hF fi_6_7 lf_X8_250 dX8_between_90 (fun x33 hF => ?_)
              refine lv_iload_n X.1 X.2.1 dX8_between_93 rfl (lv_at hl 4 rfl) ?_
              obtain ⟨a37, e38, hF⟩ := bind_out hF
              obtain ⟨x34, h35, e36, hF⟩ := bnd_out hF
              refine ab_callVl X S e38 (c_X7_told l D cA sz e36) rfl (by decide) mi_X7_told lm_X8_192 li_yX7_told ls_yX7_told (As := [va_rf x33, .int p1]) (rest := []) rfl ⟨by decide, by decide⟩ ⟨(by decide), (by decide)⟩ hl.1 rfl (by simp [ab_cat, ab_cI, ab_cJ, ab_cD, ab_cF]) dX8_between_94 (fun H1 locs1 S => ?_)
              exact ab_lret X S hr hF dX8_between_97
            · have hF := ab_neg c24 hF
              exact w_X8_between_66 X hr  S (lv_sub hl [] rfl) hF
        · have hF := ab_neg (fun q => q c19) hF
          exact w_X8_between_40 X hr  S (lv_sub hl [] rfl) hF
def f_X8_keep_19   (h : Hp) : Option (Int32 × Hp) :=
  some ((-1), h)
set_option maxHeartbeats 4000000 in
set_option maxRecDepth 100000 in
theorem w_X8_keep_19 {p : Program} {l : Launch} {e : Env} {s : State} {m : MethodId} {args : Array Value} {below : List Frame} {meth : Method} {c : Code} {D : va_G} {cA : Nat → ClassId} {sz : Nat} {rr : Int32} {hh : Hp}  (X : ab_X p s m args meth c cX8_keep 4 RX8 D cA sz) (hr : meth.sig.returnType = (some .int))  {H : Heap} {locs : List Loc} {ls : Array Slot}  {h : Hp} (S : ab_H D cA sz h s H locs) (hl : lv_has ls 4 []) (hF : f_X8_keep_19  h = some (rr, hh)) : W p l e (ab_rm 5 44 30057) s m args below meth c H locs 0 0 (MQ below (ab_Q D cA sz (some (.int rr)) hh) args s 44 30057 (fun q => sz ≤ q)) (F0 m 19 ls []) := by
  unfold f_X8_keep_19 at hF
  refine lv_iconst (v := (-1)) X.1 X.2.1 dX8_keep_19 (by decide) ?_
  refine W.widen (k := 44) (n := 30057) (Nat.le_of_ble_eq_true rfl) (Nat.le_of_ble_eq_true rfl) ?_
  exact ab_iret X S hr hF dX8_keep_20
def f_X8_keep (this : Nat) (p0 : Int32) (p1 : Int32) (h : Hp) : Option (Int32 × Hp) :=
  (ab_ck h (some this) (8, 0)).bind fun a4 =>
  bnd (f_X8_runAt a4 p0 h) fun x1 h2 =>
  if x1 = none then
    f_X8_keep_19 h2
  else
    if p1 < 0 then
      f_X8_keep_19 h2
    else
      if p1 < 4 then
        (ab_ck h2 (some this) (8, 0)).bind fun a12 =>
        bnd (f_X8_store a12 x1 p1 h2) fun x9 h10 =>
        some (1, h10)
      else
        f_X8_keep_19 h2
theorem mi_X8_keep : ab_MI yX8_keep cX8_keep 4 (some .int) 2 := ⟨lc_yX8_keep, lz_RX8, by decide, by decide, by decide +kernel⟩
set_option maxHeartbeats 4000000 in
set_option maxRecDepth 100000 in
theorem c_X8_keep (l : Launch) (D : va_G) (cA : Nat → ClassId) (sz : Nat) {this : Nat} {p0 : Int32} {p1 : Int32} {h hh : Hp} {rr : Int32} (hF : f_X8_keep this p0 p1 h = some (rr, hh)) : ab_C l D cA sz yX8_keep cX8_keep 4 (some .int) 5 44 30057 [.ref this, .int p0, .int p1] h (some (.int rr)) hh := by
  refine Met.ofW (cc := cX8_keep) (maxL := 4) (ret := (some .int)) (by decide) rfl ?_
  intro p e s m args below meth c s₁ B hml hv
  obtain ⟨rfl, hT, hR⟩ := hv
  have X : ab_X p s m _ meth c cX8_keep 4 RX8 D cA sz := (ab_enter B hml hT hR).1
  have S := (ab_enter B hml hT hR).2
  have hr := B.returns
  obtain ⟨ls, hls, hl⟩ := ab_entry m [.ref this, .int p0, .int p1] 4 (lv := [(0, .ref this), (1, .int p0), (2, .int p1)]) (by simp [lg_sl, ab_cat, ab_cI, ab_cJ, ab_cD, ab_cF, ab_cA]) (by simp [lv_args, ab_cat, ab_cI, ab_cJ, ab_cD, ab_cF, ab_cA])
  rw [hls]
  have hl : lv_has ls 4 [(0, va_rf (some this)), (1, .int p0), (2, .int p1)] := hl
  unfold f_X8_keep at hF
  show W p l e (ab_rm 5 44 30057) s m _ below meth c s.heap [] 0 0 _ _
  refine ab_aload_n X dX8_keep_0 rfl (lv_at hl 0 rfl) ?_
  refine lv_iload_n X.1 X.2.1 dX8_keep_1 rfl (lv_at hl 1 rfl) ?_
  obtain ⟨a4, e5, hF⟩ := bind_out hF
  obtain ⟨x1, h2, e3, hF⟩ := bnd_out hF
  refine ab_callVa X S e5 (c_X8_runAt l D cA sz e3) rfl (by decide) mi_X8_runAt lm_X8_119 li_yX8_runAt ls_yX8_runAt (As := [.int p0]) (rest := []) rfl ⟨by decide, by decide⟩ ⟨(by decide), (by decide)⟩ hl.1 rfl (by simp [ab_cat, ab_cI, ab_cJ, ab_cD, ab_cF]) dX8_keep_2 (fun H1 locs1 S => ?_)
  refine ab_astore_n (i := 3) (lv' := [(3, va_rf x1), (0, va_rf (some this)), (1, .int p0), (2, .int p1)]) X dX8_keep_5 rfl hl (by decide) (by simp [ab_cat, ab_cI, ab_cJ, ab_cD, ab_cF]) (fun ls hl => ?_)
  refine ab_aload_n X dX8_keep_6 rfl (lv_at hl 0 rfl) ?_
  refine ab_ifnull (tgt := 19) X dX8_keep_7 (by decide) (fun c6 => ?_) (fun c6 => ?_)
  · have hF := ab_pos c6 hF
    refine W.widen (k := 0) (n := 0) (Nat.le_of_ble_eq_true rfl) (Nat.le_of_ble_eq_true rfl) ?_
    exact w_X8_keep_19 X hr  S (lv_sub hl [] rfl) hF
  · have hF := ab_neg c6 hF
    refine lv_iload_n X.1 X.2.1 dX8_keep_10 rfl (lv_at hl 3 rfl) ?_
    refine lv_if_lt (tgt := 19) X.1 X.2.1 dX8_keep_11 (by decide) (fun c7 => ?_) (fun c7 => ?_)
    · have hF := ab_pos c7 hF
      refine W.widen (k := 0) (n := 0) (Nat.le_of_ble_eq_true rfl) (Nat.le_of_ble_eq_true rfl) ?_
      exact w_X8_keep_19 X hr  S (lv_sub hl [] rfl) hF
    · have hF := ab_neg c7 hF
      refine lv_iload_n X.1 X.2.1 dX8_keep_14 rfl (lv_at hl 3 rfl) ?_
      refine lv_iconst (v := 4) X.1 X.2.1 dX8_keep_15 (by decide) ?_
      refine lv_icmp_lt (tgt := 21) X.1 X.2.1 dX8_keep_16 (by decide) (fun c8 => ?_) (fun c8 => ?_)
      · have hF := ab_pos c8 hF
        refine ab_aload_n X dX8_keep_21 rfl (lv_at hl 1 rfl) ?_
        refine ab_aload_n X dX8_keep_22 rfl (lv_at hl 0 rfl) ?_
        refine lv_iload_n X.1 X.2.1 dX8_keep_23 rfl (lv_at hl 3 rfl) ?_
        obtain ⟨a12, e13, hF⟩ := bind_out hF
        obtain ⟨x9, h10, e11, hF⟩ := bnd_out hF
        refine ab_callVxa X S e13 (c_X8_store l D cA sz e11) rfl (by decide) mi_X8_store lm_X8_182 li_yX8_store ls_yX8_store (As := [va_rf x1, .int p1]) (rest := []) rfl ⟨by decide, by decide⟩ ⟨(by decide), (by decide)⟩ hl.1 rfl (by simp [ab_cat, ab_cI, ab_cJ, ab_cD, ab_cF]) dX8_keep_24 (fun H1 locs1 S => ?_)
        refine lv_pop X.1 X.2.1 dX8_keep_27 (by simp [ab_cat, ab_cI, ab_cJ, ab_cD, ab_cF]) ?_
        refine lv_iconst (v := 1) X.1 X.2.1 dX8_keep_28 (by decide) ?_
        refine W.widen (k := 44) (n := 30057) (Nat.le_of_ble_eq_true rfl) (Nat.le_of_ble_eq_true rfl) ?_
        exact ab_iret X S hr hF dX8_keep_29
      · have hF := ab_neg c8 hF
        refine W.widen (k := 0) (n := 0) (Nat.le_of_ble_eq_true rfl) (Nat.le_of_ble_eq_true rfl) ?_
        exact w_X8_keep_19 X hr  S (lv_sub hl [] rfl) hF
def f_X8_unlike_19   (h : Hp) : Option (Int32 × Hp) :=
  some ((-1), h)
set_option maxHeartbeats 4000000 in
set_option maxRecDepth 100000 in
theorem w_X8_unlike_19 {p : Program} {l : Launch} {e : Env} {s : State} {m : MethodId} {args : Array Value} {below : List Frame} {meth : Method} {c : Code} {D : va_G} {cA : Nat → ClassId} {sz : Nat} {rr : Int32} {hh : Hp}  (X : ab_X p s m args meth c cX8_unlike 8 RX8 D cA sz) (hr : meth.sig.returnType = (some .int))  {H : Heap} {locs : List Loc} {ls : Array Slot}  {h : Hp} (S : ab_H D cA sz h s H locs) (hl : lv_has ls 8 []) (hF : f_X8_unlike_19  h = some (rr, hh)) : W p l e (ab_rm 3 0 0) s m args below meth c H locs 0 0 (MQ below (ab_Q D cA sz (some (.int rr)) hh) args s 0 0 (fun q => sz ≤ q)) (F0 m 19 ls []) := by
  unfold f_X8_unlike_19 at hF
  refine lv_iconst (v := (-1)) X.1 X.2.1 dX8_unlike_19 (by decide) ?_
  exact ab_iret X S hr hF dX8_unlike_20
def f_X8_unlike_164 (k_123 : Option Nat → Option Nat → Option Nat → Int32 → Int32 → Int32 → Hp → Option (Int32 × Hp)) (v0 : Option Nat) (v3 : Option Nat) (v4 : Option Nat) (v5 : Int32) (v6 : Int32) (v7 : Int32) (h : Hp) : Option (Int32 × Hp) :=
  k_123 v0 v3 v4 v5 v6 (v7 + 1) h
set_option maxHeartbeats 4000000 in
set_option maxRecDepth 100000 in
theorem w_X8_unlike_164 {p : Program} {l : Launch} {e : Env} {s : State} {m : MethodId} {args : Array Value} {below : List Frame} {meth : Method} {c : Code} {D : va_G} {cA : Nat → ClassId} {sz : Nat} {rr : Int32} {hh : Hp} {k_123 : Option Nat → Option Nat → Option Nat → Int32 → Int32 → Int32 → Hp → Option (Int32 × Hp)} (X : ab_X p s m args meth c cX8_unlike 8 RX8 D cA sz) (hr : meth.sig.returnType = (some .int)) (hk_123 : ∀ (v0 : Option Nat) (v3 : Option Nat) (v4 : Option Nat) (v5 : Int32) (v6 : Int32) (v7 : Int32) (h : Hp) (H : Heap) (locs : List Loc) (ls : Array Slot), ab_H D cA sz h s H locs → lv_has ls 8 [(0, va_rf v0), (3, va_rf v3), (4, va_rf v4), (5, .int v5), (6, .int v6), (7, .int v7)] → k_123 v0 v3 v4 v5 v6 v7 h = some (rr, hh) → W p l e (ab_rm 3 0 0) s m args below meth c H locs 0 0 (MQ below (ab_Q D cA sz (some (.int rr)) hh) args s 0 0 (fun q => sz ≤ q)) (F0 m 123 ls [])) {H : Heap} {locs : List Loc} {ls : Array Slot} {v0 : Option Nat} {v3 : Option Nat} {v4 : Option Nat} {v5 : Int32} {v6 : Int32} {v7 : Int32} {h : Hp} (S : ab_H D cA sz h s H locs) (hl : lv_has ls 8 [(0, va_rf v0), (3, va_rf v3), (4, va_rf v4), (5, .int v5), (6, .int v6), (7, .int v7)]) (hF : f_X8_unlike_164 k_123 v0 v3 v4 v5 v6 v7 h = some (rr, hh)) : W p l e (ab_rm 3 0 0) s m args below meth c H locs 0 0 (MQ below (ab_Q D cA sz (some (.int rr)) hh) args s 0 0 (fun q => sz ≤ q)) (F0 m 164 ls []) := by
  unfold f_X8_unlike_164 at hF
  refine lv_iinc (v := v7 + 1) (lv' := [(7, .int (v7 + 1)), (0, va_rf v0), (3, va_rf v3), (4, va_rf v4), (5, .int v5), (6, .int v6)]) X.1 X.2.1 dX8_unlike_164 hl (k := 5) rfl (by rfl) (by decide) (by simp [ab_cat, ab_cI, ab_cJ, ab_cD, ab_cF]) (fun ls hl => ?_)
  refine lv_goto (tgt := 123) X.1 X.2.1 dX8_unlike_167 (by decide) ?_
  exact hk_123 _ _ _ _ _ _ _ _ _ _ S (lv_sub hl [1, 2, 3, 4, 5, 0] rfl) hF
def f_X8_unlike_123  : Nat → Option Nat → Option Nat → Option Nat → Int32 → Int32 → Int32 → Hp → Option (Int32 × Hp)
  | 0, _, _, _, _, _, _, _ => none
  | n + 1, v0, v3, v4, v5, v6, v7, h => if v6 ≤ v7 then
      (getR h v3 4 0).bind fun x2 =>
      (getI h x2 1 1).bind fun x3 =>
      (getR h v4 4 0).bind fun x4 =>
      (getI h x4 1 1).bind fun x5 =>
      some ((v5 + (ab_max x3 x5)) - v6, h)
    else
      (getR h v0 8 1).bind fun x6 =>
      (getR h v3 4 2).bind fun x7 =>
      (ab_ck h x6 (7, 0)).bind fun a11 =>
      bnd (f_X7_told a11 x7 v7 h) fun x8 h9 =>
      (getR h9 v0 8 1).bind fun x13 =>
      (getR h9 v4 4 2).bind fun x14 =>
      (ab_ck h9 x13 (7, 0)).bind fun a18 =>
      bnd (f_X7_told a18 x14 v7 h9) fun x15 h16 =>
      if (lg_cmp x8 x15) = 0 then
        f_X8_unlike_164 (f_X8_unlike_123 n) v0 v3 v4 v5 v6 v7 h16
      else
        f_X8_unlike_164 (f_X8_unlike_123 n) v0 v3 v4 (v5 + 1) v6 v7 h16
set_option maxHeartbeats 4000000 in
set_option maxRecDepth 100000 in
theorem w_X8_unlike_123 {p : Program} {l : Launch} {e : Env} {s : State} {m : MethodId} {args : Array Value} {below : List Frame} {meth : Method} {c : Code} {D : va_G} {cA : Nat → ClassId} {sz : Nat} {rr : Int32} {hh : Hp}  (X : ab_X p s m args meth c cX8_unlike 8 RX8 D cA sz) (hr : meth.sig.returnType = (some .int))  (n : Nat) : ∀ (v0 : Option Nat) (v3 : Option Nat) (v4 : Option Nat) (v5 : Int32) (v6 : Int32) (v7 : Int32) (h : Hp) (H : Heap) (locs : List Loc) (ls : Array Slot), ab_H D cA sz h s H locs → lv_has ls 8 [(0, va_rf v0), (3, va_rf v3), (4, va_rf v4), (5, .int v5), (6, .int v6), (7, .int v7)] → f_X8_unlike_123 n v0 v3 v4 v5 v6 v7 h = some (rr, hh) → W p l e (ab_rm 3 0 0) s m args below meth c H locs 0 0 (MQ below (ab_Q D cA sz (some (.int rr)) hh) args s 0 0 (fun q => sz ≤ q)) (F0 m 123 ls []) := by
  induction n with
  | zero => intro v0 v3 v4 v5 v6 v7 h H locs ls S hl hF; cases hF
  | succ n ih =>
    intro v0 v3 v4 v5 v6 v7 h H locs ls S hl hF
    rw [f_X8_unlike_123] at hF
    refine lv_iload X.1 X.2.1 dX8_unlike_123 (lv_at hl 5 rfl) ?_
    refine lv_iload X.1 X.2.1 dX8_unlike_125 (lv_at hl 4 rfl) ?_
    refine lv_icmp_ge (tgt := 170) X.1 X.2.1 dX8_unlike_127 (by decide) (fun c1 => ?_) (fun c1 => ?_)
    · have hF := ab_pos c1 hF
      refine lv_iload X.1 X.2.1 dX8_unlike_170 (lv_at hl 3 rfl) ?_
      refine ab_aload_n X dX8_unlike_172 rfl (lv_at hl 1 rfl) ?_
      refine ab_getR X S hF fi_4_0 lf_X8_92 dX8_unlike_173 (fun x2 hF => ?_)
      refine ab_getI X S hF fi_1_1 lf_X8_140 dX8_unlike_176 (fun x3 hF => ?_)
      refine ab_aload X dX8_unlike_179 (lv_at hl 2 rfl) ?_
      refine ab_getR X S hF fi_4_0 lf_X8_92 dX8_unlike_181 (fun x4 hF => ?_)
      refine ab_getI X S hF fi_1_1 lf_X8_140 dX8_unlike_184 (fun x5 hF => ?_)
      refine ab_mmax X lm_X8_283 ⟨by decide, by decide⟩ hl.1 (by decide) (by simp [ab_cat, ab_cI, ab_cJ, ab_cD, ab_cF]) dX8_unlike_187 ?_
      refine lv_iadd X.1 X.2.1 dX8_unlike_190 ?_
      refine lv_iload X.1 X.2.1 dX8_unlike_191 (lv_at hl 4 rfl) ?_
      refine lv_isub X.1 X.2.1 dX8_unlike_193 ?_
      exact ab_iret X S hr hF dX8_unlike_194
    · have hF := ab_neg c1 hF
      refine ab_aload_n X dX8_unlike_130 rfl (lv_at hl 0 rfl) ?_
      refine ab_getR X S hF fi_8_1 lf_X8_19 dX8_unlike_131 (fun x6 hF => ?_)
      refine ab_aload_n X dX8_unlike_134 rfl (lv_at hl 1 rfl) ?_
      refine ab_getR X S hF fi_4_2 lf_X8_127 dX8_unlike_135 (fun x7 hF => ?_)
      refine lv_iload X.1 X.2.1 dX8_unlike_138 (lv_at hl 5 rfl) ?_
      obtain ⟨a11, e12, hF⟩ := bind_out hF
      obtain ⟨x8, h9, e10, hF⟩ := bnd_out hF
      refine ab_callVl X S e12 (c_X7_told l D cA sz e10) rfl (by decide) mi_X7_told lm_X8_192 li_yX7_told ls_yX7_told (As := [va_rf x7, .int v7]) (rest := []) rfl ⟨by decide, by decide⟩ ⟨(by decide), (by decide)⟩ hl.1 rfl (by simp [ab_cat, ab_cI, ab_cJ, ab_cD, ab_cF]) dX8_unlike_140 (fun H1 locs1 S => ?_)
      refine ab_aload_n X dX8_unlike_143 rfl (lv_at hl 0 rfl) ?_
      refine ab_getR X S hF fi_8_1 lf_X8_19 dX8_unlike_144 (fun x13 hF => ?_)
      refine ab_aload X dX8_unlike_147 (lv_at hl 2 rfl) ?_
      refine ab_getR X S hF fi_4_2 lf_X8_127 dX8_unlike_149 (fun x14 hF => ?_)
      refine lv_iload X.1 X.2.1 dX8_unlike_152 (lv_at hl 5 rfl) ?_
      obtain ⟨a18, e19, hF⟩ := bind_out hF
      obtain ⟨x15, h16, e17, hF⟩ := bnd_out hF
      refine ab_callVl X S e19 (c_X7_told l D cA sz e17) rfl (by decide) mi_X7_told lm_X8_192 li_yX7_told ls_yX7_told (As := [va_rf x14, .int v7]) (rest := [.long x8]) rfl ⟨by decide, by decide⟩ ⟨(by decide), (by decide)⟩ hl.1 rfl (by simp [ab_cat, ab_cI, ab_cJ, ab_cD, ab_cF]) dX8_unlike_154 (fun H1 locs1 S => ?_)
      refine W.lcmp X.1 X.2.1 dX8_unlike_157 ?_
      refine lv_if_eq (tgt := 164) X.1 X.2.1 dX8_unlike_158 (by decide) (fun c20 => ?_) (fun c20 => ?_)
      · have hF := ab_pos c20 hF
        exact w_X8_unlike_164 X hr ih S (lv_sub hl [0, 1, 2, 3, 4, 5] rfl) hF
      · have hF := ab_neg c20 hF
        refine lv_iinc (v := v5 + 1) (lv' := [(5, .int (v5 + 1)), (0, va_rf v0), (3, va_rf v3), (4, va_rf v4), (6, .int v6), (7, .int v7)]) X.1 X.2.1 dX8_unlike_161 hl (k := 3) rfl (by rfl) (by decide) (by simp [ab_cat, ab_cI, ab_cJ, ab_cD, ab_cF]) (fun ls hl => ?_)
        exact w_X8_unlike_164 X hr ih S (lv_sub hl [1, 2, 3, 0, 4, 5] rfl) hF
def f_X8_unlike_100  (v0 : Option Nat) (v3 : Option Nat) (v4 : Option Nat) (v5 : Int32) (h : Hp) : Option (Int32 × Hp) :=
  (getR h v3 4 0).bind fun x1 =>
  (getI h x1 1 1).bind fun x2 =>
  (getR h v4 4 0).bind fun x3 =>
  (getI h x3 1 1).bind fun x4 =>
  f_X8_unlike_123 fuelN v0 v3 v4 v5 (ab_min x2 x4) 0 h
set_option maxHeartbeats 4000000 in
set_option maxRecDepth 100000 in
theorem w_X8_unlike_100 {p : Program} {l : Launch} {e : Env} {s : State} {m : MethodId} {args : Array Value} {below : List Frame} {meth : Method} {c : Code} {D : va_G} {cA : Nat → ClassId} {sz : Nat} {rr : Int32} {hh : Hp}  (X : ab_X p s m args meth c cX8_unlike 8 RX8 D cA sz) (hr : meth.sig.returnType = (some .int))  {H : Heap} {locs : List Loc} {ls : Array Slot} {v0 : Option Nat} {v3 : Option Nat} {v4 : Option Nat} {v5 : Int32} {h : Hp} (S : ab_H D cA sz h s H locs) (hl : lv_has ls 8 [(0, va_rf v0), (3, va_rf v3), (4, va_rf v4), (5, .int v5)]) (hF : f_X8_unlike_100 v0 v3 v4 v5 h = some (rr, hh)) : W p l e (ab_rm 3 0 0) s m args below meth c H locs 0 0 (MQ below (ab_Q D cA sz (some (.int rr)) hh) args s 0 0 (fun q => sz ≤ q)) (F0 m 100 ls []) := by
  unfold f_X8_unlike_100 at hF
  refine ab_aload_n X dX8_unlike_100 rfl (lv_at hl 1 rfl) ?_
  refine ab_getR X S hF fi_4_0 lf_X8_92 dX8_unlike_101 (fun x1 hF => ?_)
  refine ab_getI X S hF fi_1_1 lf_X8_140 dX8_unlike_104 (fun x2 hF => ?_)
  refine ab_aload X dX8_unlike_107 (lv_at hl 2 rfl) ?_
  refine ab_getR X S hF fi_4_0 lf_X8_92 dX8_unlike_109 (fun x3 hF => ?_)
  refine ab_getI X S hF fi_1_1 lf_X8_140 dX8_unlike_112 (fun x4 hF => ?_)
  refine ab_mmin X lm_X8_277 ⟨by decide, by decide⟩ hl.1 (by decide) (by simp [ab_cat, ab_cI, ab_cJ, ab_cD, ab_cF]) dX8_unlike_115 ?_
  refine lv_istore (lv' := [(6, .int (ab_min x2 x4)), (0, va_rf v0), (3, va_rf v3), (4, va_rf v4), (5, .int v5)]) X.1 X.2.1 dX8_unlike_118 hl (by decide) (by simp [ab_cat, ab_cI, ab_cJ, ab_cD, ab_cF]) (fun ls hl => ?_)
  refine lv_iconst (v := 0) X.1 X.2.1 dX8_unlike_120 (by decide) ?_
  refine lv_istore (lv' := [(7, .int 0), (6, .int (ab_min x2 x4)), (0, va_rf v0), (3, va_rf v3), (4, va_rf v4), (5, .int v5)]) X.1 X.2.1 dX8_unlike_121 hl (by decide) (by simp [ab_cat, ab_cI, ab_cJ, ab_cD, ab_cF]) (fun ls hl => ?_)
  exact w_X8_unlike_123 X hr  fuelN _ _ _ _ _ _ _ _ _ _ S (lv_sub hl [2, 3, 4, 5, 1, 0] rfl) hF
def f_X8_unlike_70  (v0 : Option Nat) (v3 : Option Nat) (v4 : Option Nat) (v5 : Int32) (h : Hp) : Option (Int32 × Hp) :=
  (getR h v0 8 1).bind fun x1 =>
  (getD h v3 4 4).bind fun x2 =>
  (ab_ck h x1 (7, 0)).bind fun a6 =>
  bnd (f_X7_bits a6 x2 h) fun x3 h4 =>
  (getR h4 v0 8 1).bind fun x8 =>
  (getD h4 v4 4 4).bind fun x9 =>
  (ab_ck h4 x8 (7, 0)).bind fun a13 =>
  bnd (f_X7_bits a13 x9 h4) fun x10 h11 =>
  if (lg_cmp x3 x10) = 0 then
    f_X8_unlike_100 v0 v3 v4 v5 h11
  else
    f_X8_unlike_100 v0 v3 v4 (v5 + 1) h11
set_option maxHeartbeats 4000000 in
set_option maxRecDepth 100000 in
theorem w_X8_unlike_70 {p : Program} {l : Launch} {e : Env} {s : State} {m : MethodId} {args : Array Value} {below : List Frame} {meth : Method} {c : Code} {D : va_G} {cA : Nat → ClassId} {sz : Nat} {rr : Int32} {hh : Hp}  (X : ab_X p s m args meth c cX8_unlike 8 RX8 D cA sz) (hr : meth.sig.returnType = (some .int))  {H : Heap} {locs : List Loc} {ls : Array Slot} {v0 : Option Nat} {v3 : Option Nat} {v4 : Option Nat} {v5 : Int32} {h : Hp} (S : ab_H D cA sz h s H locs) (hl : lv_has ls 8 [(0, va_rf v0), (3, va_rf v3), (4, va_rf v4), (5, .int v5)]) (hF : f_X8_unlike_70 v0 v3 v4 v5 h = some (rr, hh)) : W p l e (ab_rm 3 0 0) s m args below meth c H locs 0 0 (MQ below (ab_Q D cA sz (some (.int rr)) hh) args s 0 0 (fun q => sz ≤ q)) (F0 m 70 ls []) := by
  unfold f_X8_unlike_70 at hF
  refine ab_aload_n X dX8_unlike_70 rfl (lv_at hl 0 rfl) ?_
  refine ab_getR X S hF fi_8_1 lf_X8_19 dX8_unlike_71 (fun x1 hF => ?_)
  refine ab_aload_n X dX8_unlike_74 rfl (lv_at hl 1 rfl) ?_
  refine ab_getD X S hF fi_4_4 lf_X8_156 dX8_unlike_75 (fun x2 hF => ?_)
  obtain ⟨a6, e7, hF⟩ := bind_out hF
  obtain ⟨x3, h4, e5, hF⟩ := bnd_out hF
  refine ab_callVl X S e7 (c_X7_bits l D cA sz e5) rfl (by decide) mi_X7_bits lm_X8_196 li_yX7_bits ls_yX7_bits (As := [.double x2]) (rest := []) rfl ⟨by decide, by decide⟩ ⟨(by decide), (by decide)⟩ hl.1 rfl (by simp [ab_cat, ab_cI, ab_cJ, ab_cD, ab_cF]) dX8_unlike_78 (fun H1 locs1 S => ?_)
  refine ab_aload_n X dX8_unlike_81 rfl (lv_at hl 0 rfl) ?_
  refine ab_getR X S hF fi_8_1 lf_X8_19 dX8_unlike_82 (fun x8 hF => ?_)
  refine ab_aload X dX8_unlike_85 (lv_at hl 2 rfl) ?_
  refine ab_getD X S hF fi_4_4 lf_X8_156 dX8_unlike_87 (fun x9 hF => ?_)
  obtain ⟨a13, e14, hF⟩ := bind_out hF
  obtain ⟨x10, h11, e12, hF⟩ := bnd_out hF
  refine ab_callVl X S e14 (c_X7_bits l D cA sz e12) rfl (by decide) mi_X7_bits lm_X8_196 li_yX7_bits ls_yX7_bits (As := [.double x9]) (rest := [.long x3]) rfl ⟨by decide, by decide⟩ ⟨(by decide), (by decide)⟩ hl.1 rfl (by simp [ab_cat, ab_cI, ab_cJ, ab_cD, ab_cF]) dX8_unlike_90 (fun H1 locs1 S => ?_)
  refine W.lcmp X.1 X.2.1 dX8_unlike_93 ?_
  refine lv_if_eq (tgt := 100) X.1 X.2.1 dX8_unlike_94 (by decide) (fun c15 => ?_) (fun c15 => ?_)
  · have hF := ab_pos c15 hF
    exact w_X8_unlike_100 X hr  S (lv_sub hl [0, 1, 2, 3] rfl) hF
  · have hF := ab_neg c15 hF
    refine lv_iinc (v := v5 + 1) (lv' := [(5, .int (v5 + 1)), (0, va_rf v0), (3, va_rf v3), (4, va_rf v4)]) X.1 X.2.1 dX8_unlike_97 hl (k := 3) rfl (by rfl) (by decide) (by simp [ab_cat, ab_cI, ab_cJ, ab_cD, ab_cF]) (fun ls hl => ?_)
    exact w_X8_unlike_100 X hr  S (lv_sub hl [1, 2, 3, 0] rfl) hF
def f_X8_unlike (this : Nat) (p0 : Int32) (p1 : Int32) (h : Hp) : Option (Int32 × Hp) :=
  (ab_ck h (some this) (8, 0)).bind fun a4 =>
  bnd (f_X8_runAt a4 p0 h) fun x1 h2 =>
  if x1 = none then
    f_X8_unlike_19 h2
  else
    if p1 < 0 then
      f_X8_unlike_19 h2
    else
      if p1 < 4 then
        (getR h2 (some this) 8 8).bind fun x9 =>
        (aldR h2 x9 15 p1).bind fun x10 =>
        if ¬ x10 = none then
          (getR h2 (some this) 8 1).bind fun x12 =>
          (getD h2 x1 4 1).bind fun x13 =>
          (ab_ck h2 x12 (7, 0)).bind fun a17 =>
          bnd (f_X7_bits a17 x13 h2) fun x14 h15 =>
          (getR h15 (some this) 8 1).bind fun x19 =>
          (getD h15 x10 4 1).bind fun x20 =>
          (ab_ck h15 x19 (7, 0)).bind fun a24 =>
          bnd (f_X7_bits a24 x20 h15) fun x21 h22 =>
          if (lg_cmp x14 x21) = 0 then
            f_X8_unlike_70 (some this) x1 x10 0 h22
          else
            f_X8_unlike_70 (some this) x1 x10 (0 + 1) h22
        else
          some ((-2), h2)
      else
        f_X8_unlike_19 h2
theorem mi_X8_unlike : ab_MI yX8_unlike cX8_unlike 8 (some .int) 2 := ⟨lc_yX8_unlike, lz_RX8, by decide, by decide, by decide +kernel⟩
set_option maxHeartbeats 4000000 in
set_option maxRecDepth 100000 in
theorem c_X8_unlike (l : Launch) (D : va_G) (cA : Nat → ClassId) (sz : Nat) {this : Nat} {p0 : Int32} {p1 : Int32} {h hh : Hp} {rr : Int32} (hF : f_X8_unlike this p0 p1 h = some (rr, hh)) : ab_C l D cA sz yX8_unlike cX8_unlike 8 (some .int) 3 0 0 [.ref this, .int p0, .int p1] h (some (.int rr)) hh := by
  refine Met.ofW (cc := cX8_unlike) (maxL := 8) (ret := (some .int)) (by decide) rfl ?_
  intro p e s m args below meth c s₁ B hml hv
  obtain ⟨rfl, hT, hR⟩ := hv
  have X : ab_X p s m _ meth c cX8_unlike 8 RX8 D cA sz := (ab_enter B hml hT hR).1
  have S := (ab_enter B hml hT hR).2
  have hr := B.returns
  obtain ⟨ls, hls, hl⟩ := ab_entry m [.ref this, .int p0, .int p1] 8 (lv := [(0, .ref this), (1, .int p0), (2, .int p1)]) (by simp [lg_sl, ab_cat, ab_cI, ab_cJ, ab_cD, ab_cF, ab_cA]) (by simp [lv_args, ab_cat, ab_cI, ab_cJ, ab_cD, ab_cF, ab_cA])
  rw [hls]
  have hl : lv_has ls 8 [(0, va_rf (some this)), (1, .int p0), (2, .int p1)] := hl
  unfold f_X8_unlike at hF
  show W p l e (ab_rm 3 0 0) s m _ below meth c s.heap [] 0 0 _ _
  refine ab_aload_n X dX8_unlike_0 rfl (lv_at hl 0 rfl) ?_
  refine lv_iload_n X.1 X.2.1 dX8_unlike_1 rfl (lv_at hl 1 rfl) ?_
  obtain ⟨a4, e5, hF⟩ := bind_out hF
  obtain ⟨x1, h2, e3, hF⟩ := bnd_out hF
  refine ab_callVa X S e5 (c_X8_runAt l D cA sz e3) rfl (by decide) mi_X8_runAt lm_X8_119 li_yX8_runAt ls_yX8_runAt (As := [.int p0]) (rest := []) rfl ⟨by decide, by decide⟩ ⟨(by decide), (by decide)⟩ hl.1 rfl (by simp [ab_cat, ab_cI, ab_cJ, ab_cD, ab_cF]) dX8_unlike_2 (fun H1 locs1 S => ?_)
  refine ab_astore_n (i := 3) (lv' := [(3, va_rf x1), (0, va_rf (some this)), (1, .int p0), (2, .int p1)]) X dX8_unlike_5 rfl hl (by decide) (by simp [ab_cat, ab_cI, ab_cJ, ab_cD, ab_cF]) (fun ls hl => ?_)
  refine ab_aload_n X dX8_unlike_6 rfl (lv_at hl 0 rfl) ?_
  refine ab_ifnull (tgt := 19) X dX8_unlike_7 (by decide) (fun c6 => ?_) (fun c6 => ?_)
  · have hF := ab_pos c6 hF
    exact w_X8_unlike_19 X hr  S (lv_sub hl [] rfl) hF
  · have hF := ab_neg c6 hF
    refine lv_iload_n X.1 X.2.1 dX8_unlike_10 rfl (lv_at hl 3 rfl) ?_
    refine lv_if_lt (tgt := 19) X.1 X.2.1 dX8_unlike_11 (by decide) (fun c7 => ?_) (fun c7 => ?_)
    · have hF := ab_pos c7 hF
      exact w_X8_unlike_19 X hr  S (lv_sub hl [] rfl) hF
    · have hF := ab_neg c7 hF
      refine lv_iload_n X.1 X.2.1 dX8_unlike_14 rfl (lv_at hl 3 rfl) ?_
      refine lv_iconst (v := 4) X.1 X.2.1 dX8_unlike_15 (by decide) ?_
      refine lv_icmp_lt (tgt := 21) X.1 X.2.1 dX8_unlike_16 (by decide) (fun c8 => ?_) (fun c8 => ?_)
      · have hF := ab_pos c8 hF
        refine ab_aload_n X dX8_unlike_21 rfl (lv_at hl 1 rfl) ?_
        refine ab_getR X S hF fi_8_8 lf_X8_41 dX8_unlike_22 (fun x9 hF => ?_)
        refine lv_iload_n X.1 X.2.1 dX8_unlike_25 rfl (lv_at hl 3 rfl) ?_
        refine ab_aldR X S hF rfl (by decide) dX8_unlike_26 (fun x10 hF => ?_)
        refine ab_astore (lv' := [(4, va_rf x10), (3, va_rf x1), (0, va_rf (some this)), (1, .int p0), (2, .int p1)]) X dX8_unlike_27 hl (by decide) (by simp [ab_cat, ab_cI, ab_cJ, ab_cD, ab_cF]) (fun ls hl => ?_)
        refine ab_aload X dX8_unlike_29 (lv_at hl 0 rfl) ?_
        refine ab_ifnonnull (tgt := 37) X dX8_unlike_31 (by decide) (fun c11 => ?_) (fun c11 => ?_)
        · have hF := ab_pos c11 hF
          refine lv_iconst (v := 0) X.1 X.2.1 dX8_unlike_37 (by decide) ?_
          refine lv_istore (lv' := [(5, .int 0), (4, va_rf x10), (3, va_rf x1), (0, va_rf (some this)), (1, .int p0), (2, .int p1)]) X.1 X.2.1 dX8_unlike_38 hl (by decide) (by simp [ab_cat, ab_cI, ab_cJ, ab_cD, ab_cF]) (fun ls hl => ?_)
          refine ab_aload_n X dX8_unlike_40 rfl (lv_at hl 3 rfl) ?_
          refine ab_getR X S hF fi_8_1 lf_X8_19 dX8_unlike_41 (fun x12 hF => ?_)
          refine ab_aload_n X dX8_unlike_44 rfl (lv_at hl 2 rfl) ?_
          refine ab_getD X S hF fi_4_1 lf_X8_179 dX8_unlike_45 (fun x13 hF => ?_)
          obtain ⟨a17, e18, hF⟩ := bind_out hF
          obtain ⟨x14, h15, e16, hF⟩ := bnd_out hF
          refine ab_callVl X S e18 (c_X7_bits l D cA sz e16) rfl (by decide) mi_X7_bits lm_X8_196 li_yX7_bits ls_yX7_bits (As := [.double x13]) (rest := []) rfl ⟨by decide, by decide⟩ ⟨(by decide), (by decide)⟩ hl.1 rfl (by simp [ab_cat, ab_cI, ab_cJ, ab_cD, ab_cF]) dX8_unlike_48 (fun H1 locs1 S => ?_)
          refine ab_aload_n X dX8_unlike_51 rfl (lv_at hl 3 rfl) ?_
          refine ab_getR X S hF fi_8_1 lf_X8_19 dX8_unlike_52 (fun x19 hF => ?_)
          refine ab_aload X dX8_unlike_55 (lv_at hl 1 rfl) ?_
          refine ab_getD X S hF fi_4_1 lf_X8_179 dX8_unlike_57 (fun x20 hF => ?_)
          obtain ⟨a24, e25, hF⟩ := bind_out hF
          obtain ⟨x21, h22, e23, hF⟩ := bnd_out hF
          refine ab_callVl X S e25 (c_X7_bits l D cA sz e23) rfl (by decide) mi_X7_bits lm_X8_196 li_yX7_bits ls_yX7_bits (As := [.double x20]) (rest := [.long x14]) rfl ⟨by decide, by decide⟩ ⟨(by decide), (by decide)⟩ hl.1 rfl (by simp [ab_cat, ab_cI, ab_cJ, ab_cD, ab_cF]) dX8_unlike_60 (fun H1 locs1 S => ?_)
          refine W.lcmp X.1 X.2.1 dX8_unlike_63 ?_
          refine lv_if_eq (tgt := 70) X.1 X.2.1 dX8_unlike_64 (by decide) (fun c26 => ?_) (fun c26 => ?_)
          · have hF := ab_pos c26 hF
            exact w_X8_unlike_70 X hr  S (lv_sub hl [3, 2, 1, 0] rfl) hF
          · have hF := ab_neg c26 hF
            refine lv_iinc (v := 0 + 1) (lv' := [(5, .int (0 + 1)), (4, va_rf x10), (3, va_rf x1), (0, va_rf (some this)), (1, .int p0), (2, .int p1)]) X.1 X.2.1 dX8_unlike_67 hl (k := 0) rfl (by rfl) (by decide) (by simp [ab_cat, ab_cI, ab_cJ, ab_cD, ab_cF]) (fun ls hl => ?_)
            exact w_X8_unlike_70 X hr  S (lv_sub hl [3, 2, 1, 0] rfl) hF
        · have hF := ab_neg c11 hF
          refine lv_bipush (v := (-2)) X.1 X.2.1 dX8_unlike_34 (by decide) ?_
          exact ab_iret X S hr hF dX8_unlike_36
      · have hF := ab_neg c8 hF
        exact w_X8_unlike_19 X hr  S (lv_sub hl [] rfl) hF
def f_X9_goes_317  : Nat → Option Nat → Int32 → Int32 → Int32 → Int32 → Hp → Option (Int32 × Hp)
  | 0, _, _, _, _, _, _ => none
  | n + 1, v0, v1, v8, v9, v16, h => if v8 ≤ v16 then
      (ab_ck h v0 (9, 0)).bind fun a5 =>
      bnd (f_X9_looksAtEvents a5 v1 h) fun _ h3 =>
      some (v9, h3)
    else
      (getR h v0 9 30).bind fun x7 =>
      (getR h v0 9 41).bind fun x8 =>
      (aldD h x8 ((6 * v1) + v16)).bind fun x9 =>
      (astD h x7 ((6 * v1) + v16) x9).bind fun h10 =>
      f_X9_goes_317 n v0 v1 v8 v9 (v16 + 1) h10
set_option maxHeartbeats 4000000 in
set_option maxRecDepth 100000 in
theorem w_X9_goes_317 {p : Program} {l : Launch} {e : Env} {s : State} {m : MethodId} {args : Array Value} {below : List Frame} {meth : Method} {c : Code} {D : va_G} {cA : Nat → ClassId} {sz : Nat} {rr : Int32} {hh : Hp}  (X : ab_X p s m args meth c cX9_goes 17 RX9 D cA sz) (hr : meth.sig.returnType = (some .int))  (n : Nat) : ∀ (v0 : Option Nat) (v1 : Int32) (v8 : Int32) (v9 : Int32) (v16 : Int32) (h : Hp) (H : Heap) (locs : List Loc) (ls : Array Slot), ab_H D cA sz h s H locs → lv_has ls 17 [(0, va_rf v0), (1, .int v1), (8, .int v8), (9, .int v9), (16, .int v16)] → f_X9_goes_317 n v0 v1 v8 v9 v16 h = some (rr, hh) → W p l e (ab_rm 8 0 0) s m args below meth c H locs 0 0 (MQ below (ab_Q D cA sz (some (.int rr)) hh) args s 0 0 (fun q => sz ≤ q)) (F0 m 317 ls []) := by
  induction n with
  | zero => intro v0 v1 v8 v9 v16 h H locs ls S hl hF; cases hF
  | succ n ih =>
    intro v0 v1 v8 v9 v16 h H locs ls S hl hF
    rw [f_X9_goes_317] at hF
    refine lv_iload X.1 X.2.1 dX9_goes_317 (lv_at hl 4 rfl) ?_
    refine lv_iload X.1 X.2.1 dX9_goes_319 (lv_at hl 2 rfl) ?_
    refine lv_icmp_ge (tgt := 354) X.1 X.2.1 dX9_goes_321 (by decide) (fun c1 => ?_) (fun c1 => ?_)
    · have hF := ab_pos c1 hF
      refine ab_aload_n X dX9_goes_354 rfl (lv_at hl 0 rfl) ?_
      refine lv_iload_n X.1 X.2.1 dX9_goes_355 rfl (lv_at hl 1 rfl) ?_
      obtain ⟨a5, e6, hF⟩ := bind_out hF
      obtain ⟨x2, h3, e4, hF⟩ := bnd_out hF
      refine ab_callVv X S e6 (c_X9_looksAtEvents l D cA sz e4) rfl (by decide) mi_X9_looksAtEvents lm_X9_318 li_yX9_looksAtEvents ls_yX9_looksAtEvents (As := [.int v1]) (rest := []) rfl ⟨by decide, by decide⟩ ⟨(by decide), (by decide)⟩ hl.1 rfl (by simp [ab_cat, ab_cI, ab_cJ, ab_cD, ab_cF]) dX9_goes_356 (fun H1 locs1 S => ?_)
      refine lv_iload X.1 X.2.1 dX9_goes_359 (lv_at hl 3 rfl) ?_
      exact ab_iret X S hr hF dX9_goes_361
    · have hF := ab_neg c1 hF
      refine ab_aload_n X dX9_goes_324 rfl (lv_at hl 0 rfl) ?_
      refine ab_getR X S hF fi_9_30 lf_X9_98 dX9_goes_325 (fun x7 hF => ?_)
      refine lv_bipush (v := 6) X.1 X.2.1 dX9_goes_328 (by decide) ?_
      refine lv_iload_n X.1 X.2.1 dX9_goes_330 rfl (lv_at hl 1 rfl) ?_
      refine lv_imul X.1 X.2.1 dX9_goes_331 ?_
      refine lv_iload X.1 X.2.1 dX9_goes_332 (lv_at hl 4 rfl) ?_
      refine lv_iadd X.1 X.2.1 dX9_goes_334 ?_
      refine ab_aload_n X dX9_goes_335 rfl (lv_at hl 0 rfl) ?_
      refine ab_getR X S hF fi_9_41 lf_X9_131 dX9_goes_336 (fun x8 hF => ?_)
      refine lv_bipush (v := 6) X.1 X.2.1 dX9_goes_339 (by decide) ?_
      refine lv_iload_n X.1 X.2.1 dX9_goes_341 rfl (lv_at hl 1 rfl) ?_
      refine lv_imul X.1 X.2.1 dX9_goes_342 ?_
      refine lv_iload X.1 X.2.1 dX9_goes_343 (lv_at hl 4 rfl) ?_
      refine lv_iadd X.1 X.2.1 dX9_goes_345 ?_
      refine ab_aldD X S hF dX9_goes_346 (fun x9 hF => ?_)
      refine ab_astD X S hF dX9_goes_347 (fun h10 H1 locs1 hF S => ?_)
      refine lv_iinc (v := v16 + 1) (lv' := [(16, .int (v16 + 1)), (0, va_rf v0), (1, .int v1), (8, .int v8), (9, .int v9)]) X.1 X.2.1 dX9_goes_348 hl (k := 4) rfl (by rfl) (by decide) (by simp [ab_cat, ab_cI, ab_cJ, ab_cD, ab_cF]) (fun ls hl => ?_)
      refine lv_goto (tgt := 317) X.1 X.2.1 dX9_goes_351 (by decide) ?_
      exact ih _ _ _ _ _ _ _ _ _ S (lv_sub hl [1, 2, 3, 4, 0] rfl) hF
def f_X9_goes_313  (v0 : Option Nat) (v1 : Int32) (v8 : Int32) (v9 : Int32) (u0 : UInt64) (u1 : Int32) (u2 : Option Nat) (h : Hp) : Option (Int32 × Hp) :=
  (astD h u2 u1 u0).bind fun h1 =>
  f_X9_goes_317 fuelN v0 v1 v8 v9 0 h1
set_option maxHeartbeats 4000000 in
set_option maxRecDepth 100000 in
theorem w_X9_goes_313 {p : Program} {l : Launch} {e : Env} {s : State} {m : MethodId} {args : Array Value} {below : List Frame} {meth : Method} {c : Code} {D : va_G} {cA : Nat → ClassId} {sz : Nat} {rr : Int32} {hh : Hp}  (X : ab_X p s m args meth c cX9_goes 17 RX9 D cA sz) (hr : meth.sig.returnType = (some .int))  {H : Heap} {locs : List Loc} {ls : Array Slot} {v0 : Option Nat} {v1 : Int32} {v8 : Int32} {v9 : Int32} {u0 : UInt64} {u1 : Int32} {u2 : Option Nat} {h : Hp} (S : ab_H D cA sz h s H locs) (hl : lv_has ls 17 [(0, va_rf v0), (1, .int v1), (8, .int v8), (9, .int v9)]) (hF : f_X9_goes_313 v0 v1 v8 v9 u0 u1 u2 h = some (rr, hh)) : W p l e (ab_rm 8 0 0) s m args below meth c H locs 0 0 (MQ below (ab_Q D cA sz (some (.int rr)) hh) args s 0 0 (fun q => sz ≤ q)) (F0 m 313 ls [.double u0, .int u1, va_rf u2]) := by
  unfold f_X9_goes_313 at hF
  refine ab_astD X S hF dX9_goes_313 (fun h1 H1 locs1 hF S => ?_)
  refine lv_iconst (v := 0) X.1 X.2.1 dX9_goes_314 (by decide) ?_
  refine lv_istore (lv' := [(16, .int 0), (0, va_rf v0), (1, .int v1), (8, .int v8), (9, .int v9)]) X.1 X.2.1 dX9_goes_315 hl (by decide) (by simp [ab_cat, ab_cI, ab_cJ, ab_cD, ab_cF]) (fun ls hl => ?_)
  exact w_X9_goes_317 X hr  fuelN _ _ _ _ _ _ _ _ _ S (lv_sub hl [1, 2, 3, 4, 0] rfl) hF
def f_X9_goes_249  (v0 : Option Nat) (v1 : Int32) (v5 : UInt64) (v7 : Int32) (v8 : Int32) (v9 : Int32) (v10 : UInt64) (v12 : UInt64) (v15 : Int32) (h : Hp) : Option (Int32 × Hp) :=
  (ab_ck h v0 (9, 0)).bind fun a4 =>
  bnd (f_X9_keepsStep a4 v1 v7 v8 v10 h) fun _ h2 =>
  (getR h2 v0 9 29).bind fun x6 =>
  (astD h2 x6 v1 v12).bind fun h7 =>
  (getR h7 v0 9 18).bind fun x8 =>
  (aldI h7 x8 11 v1).bind fun x9 =>
  (astI h7 x8 v1 (x9 + 1)).bind fun h10 =>
  (getR h10 v0 9 19).bind fun x11 =>
  (aldI h10 x11 11 v1).bind fun x12 =>
  (astI h10 x11 v1 (x12 + v9)).bind fun h13 =>
  (getR h13 v0 9 25).bind fun x14 =>
  if v15 = 0 then
    (getR h13 v0 9 38).bind fun x16 =>
    (aldD h13 x16 v1).bind fun x17 =>
    (fop (FP.dadd x17 v10)).bind fun x18 =>
    f_X9_goes_313 v0 v1 v8 v9 x18 v1 x14 h13
  else
    f_X9_goes_313 v0 v1 v8 v9 v5 v1 x14 h13
set_option maxHeartbeats 4000000 in
set_option maxRecDepth 100000 in
theorem w_X9_goes_249 {p : Program} {l : Launch} {e : Env} {s : State} {m : MethodId} {args : Array Value} {below : List Frame} {meth : Method} {c : Code} {D : va_G} {cA : Nat → ClassId} {sz : Nat} {rr : Int32} {hh : Hp}  (X : ab_X p s m args meth c cX9_goes 17 RX9 D cA sz) (hr : meth.sig.returnType = (some .int))  {H : Heap} {locs : List Loc} {ls : Array Slot} {v0 : Option Nat} {v1 : Int32} {v5 : UInt64} {v7 : Int32} {v8 : Int32} {v9 : Int32} {v10 : UInt64} {v12 : UInt64} {v15 : Int32} {h : Hp} (S : ab_H D cA sz h s H locs) (hl : lv_has ls 17 [(0, va_rf v0), (1, .int v1), (5, .double v5), (7, .int v7), (8, .int v8), (9, .int v9), (10, .double v10), (12, .double v12), (15, .int v15)]) (hF : f_X9_goes_249 v0 v1 v5 v7 v8 v9 v10 v12 v15 h = some (rr, hh)) : W p l e (ab_rm 8 0 0) s m args below meth c H locs 0 0 (MQ below (ab_Q D cA sz (some (.int rr)) hh) args s 0 0 (fun q => sz ≤ q)) (F0 m 249 ls []) := by
  unfold f_X9_goes_249 at hF
  refine ab_aload_n X dX9_goes_249 rfl (lv_at hl 0 rfl) ?_
  refine lv_iload_n X.1 X.2.1 dX9_goes_250 rfl (lv_at hl 1 rfl) ?_
  refine lv_iload X.1 X.2.1 dX9_goes_251 (lv_at hl 3 rfl) ?_
  refine lv_iload X.1 X.2.1 dX9_goes_253 (lv_at hl 4 rfl) ?_
  refine lv_dload X.1 X.2.1 dX9_goes_255 (lv_at hl 6 rfl) ?_
  obtain ⟨a4, e5, hF⟩ := bind_out hF
  obtain ⟨x1, h2, e3, hF⟩ := bnd_out hF
  refine ab_callVv X S e5 (c_X9_keepsStep l D cA sz e3) rfl (by decide) mi_X9_keepsStep lm_X9_314 li_yX9_keepsStep ls_yX9_keepsStep (As := [.int v1, .int v7, .int v8, .double v10]) (rest := []) rfl ⟨by decide, by decide⟩ ⟨(by decide), (by decide)⟩ hl.1 rfl (by simp [ab_cat, ab_cI, ab_cJ, ab_cD, ab_cF]) dX9_goes_257 (fun H1 locs1 S => ?_)
  refine ab_aload_n X dX9_goes_260 rfl (lv_at hl 0 rfl) ?_
  refine ab_getR X S hF fi_9_29 lf_X9_95 dX9_goes_261 (fun x6 hF => ?_)
  refine lv_iload_n X.1 X.2.1 dX9_goes_264 rfl (lv_at hl 1 rfl) ?_
  refine lv_dload X.1 X.2.1 dX9_goes_265 (lv_at hl 7 rfl) ?_
  refine ab_astD X S hF dX9_goes_267 (fun h7 H1 locs1 hF S => ?_)
  refine ab_aload_n X dX9_goes_268 rfl (lv_at hl 0 rfl) ?_
  refine ab_getR X S hF fi_9_18 lf_X9_61 dX9_goes_269 (fun x8 hF => ?_)
  refine lv_iload_n X.1 X.2.1 dX9_goes_272 rfl (lv_at hl 1 rfl) ?_
  refine lv_dup2_11 X.1 X.2.1 dX9_goes_273 (by simp [ab_cat, ab_cI, ab_cJ, ab_cD, ab_cF]) (by simp [ab_cat, ab_cI, ab_cJ, ab_cD, ab_cF]) ?_
  refine ab_aldI X S hF dX9_goes_274 (fun x9 hF => ?_)
  refine lv_iconst (v := 1) X.1 X.2.1 dX9_goes_275 (by decide) ?_
  refine lv_iadd X.1 X.2.1 dX9_goes_276 ?_
  refine ab_astI X S hF dX9_goes_277 (fun h10 H1 locs1 hF S => ?_)
  refine ab_aload_n X dX9_goes_278 rfl (lv_at hl 0 rfl) ?_
  refine ab_getR X S hF fi_9_19 lf_X9_64 dX9_goes_279 (fun x11 hF => ?_)
  refine lv_iload_n X.1 X.2.1 dX9_goes_282 rfl (lv_at hl 1 rfl) ?_
  refine lv_dup2_11 X.1 X.2.1 dX9_goes_283 (by simp [ab_cat, ab_cI, ab_cJ, ab_cD, ab_cF]) (by simp [ab_cat, ab_cI, ab_cJ, ab_cD, ab_cF]) ?_
  refine ab_aldI X S hF dX9_goes_284 (fun x12 hF => ?_)
  refine lv_iload X.1 X.2.1 dX9_goes_285 (lv_at hl 5 rfl) ?_
  refine lv_iadd X.1 X.2.1 dX9_goes_287 ?_
  refine ab_astI X S hF dX9_goes_288 (fun h13 H1 locs1 hF S => ?_)
  refine ab_aload_n X dX9_goes_289 rfl (lv_at hl 0 rfl) ?_
  refine ab_getR X S hF fi_9_25 lf_X9_83 dX9_goes_290 (fun x14 hF => ?_)
  refine lv_iload_n X.1 X.2.1 dX9_goes_293 rfl (lv_at hl 1 rfl) ?_
  refine lv_iload X.1 X.2.1 dX9_goes_294 (lv_at hl 8 rfl) ?_
  refine lv_if_eq (tgt := 304) X.1 X.2.1 dX9_goes_296 (by decide) (fun c15 => ?_) (fun c15 => ?_)
  · have hF := ab_pos c15 hF
    refine ab_aload_n X dX9_goes_304 rfl (lv_at hl 0 rfl) ?_
    refine ab_getR X S hF fi_9_38 lf_X9_122 dX9_goes_305 (fun x16 hF => ?_)
    refine lv_iload_n X.1 X.2.1 dX9_goes_308 rfl (lv_at hl 1 rfl) ?_
    refine ab_aldD X S hF dX9_goes_309 (fun x17 hF => ?_)
    refine lv_dload X.1 X.2.1 dX9_goes_310 (lv_at hl 6 rfl) ?_
    obtain ⟨x18, ev, ne, hF⟩ := ab_fopx hF
    refine lv_dadd X.1 X.2.1 dX9_goes_312 ne ?_
    rw [ev]
    exact w_X9_goes_313 X hr  S (lv_sub hl [0, 1, 4, 5] rfl) hF
  · have hF := ab_neg c15 hF
    refine lv_dload X.1 X.2.1 dX9_goes_299 (lv_at hl 2 rfl) ?_
    refine lv_goto (tgt := 313) X.1 X.2.1 dX9_goes_301 (by decide) ?_
    exact w_X9_goes_313 X hr  S (lv_sub hl [0, 1, 4, 5] rfl) hF
def f_X9_goes_248  (v0 : Option Nat) (v1 : Int32) (v5 : UInt64) (v7 : Int32) (v8 : Int32) (v9 : Int32) (v10 : UInt64) (v12 : UInt64) (v15 : Int32) (u0 : UInt64) (u1 : Int32) (u2 : Option Nat) (h : Hp) : Option (Int32 × Hp) :=
  (astD h u2 u1 u0).bind fun h1 =>
  f_X9_goes_249 v0 v1 v5 v7 v8 v9 v10 v12 v15 h1
set_option maxHeartbeats 4000000 in
set_option maxRecDepth 100000 in
theorem w_X9_goes_248 {p : Program} {l : Launch} {e : Env} {s : State} {m : MethodId} {args : Array Value} {below : List Frame} {meth : Method} {c : Code} {D : va_G} {cA : Nat → ClassId} {sz : Nat} {rr : Int32} {hh : Hp}  (X : ab_X p s m args meth c cX9_goes 17 RX9 D cA sz) (hr : meth.sig.returnType = (some .int))  {H : Heap} {locs : List Loc} {ls : Array Slot} {v0 : Option Nat} {v1 : Int32} {v5 : UInt64} {v7 : Int32} {v8 : Int32} {v9 : Int32} {v10 : UInt64} {v12 : UInt64} {v15 : Int32} {u0 : UInt64} {u1 : Int32} {u2 : Option Nat} {h : Hp} (S : ab_H D cA sz h s H locs) (hl : lv_has ls 17 [(0, va_rf v0), (1, .int v1), (5, .double v5), (7, .int v7), (8, .int v8), (9, .int v9), (10, .double v10), (12, .double v12), (15, .int v15)]) (hF : f_X9_goes_248 v0 v1 v5 v7 v8 v9 v10 v12 v15 u0 u1 u2 h = some (rr, hh)) : W p l e (ab_rm 8 0 0) s m args below meth c H locs 0 0 (MQ below (ab_Q D cA sz (some (.int rr)) hh) args s 0 0 (fun q => sz ≤ q)) (F0 m 248 ls [.double u0, .int u1, va_rf u2]) := by
  unfold f_X9_goes_248 at hF
  refine ab_astD X S hF dX9_goes_248 (fun h1 H1 locs1 hF S => ?_)
  exact w_X9_goes_249 X hr  S (lv_sub hl [0, 1, 2, 3, 4, 5, 6, 7, 8] rfl) hF
def f_X9_goes_246  (v0 : Option Nat) (v1 : Int32) (v5 : UInt64) (v7 : Int32) (v8 : Int32) (v9 : Int32) (v10 : UInt64) (v12 : UInt64) (v15 : Int32) (u0 : Int32) (u1 : Option Nat) (h : Hp) : Option (Int32 × Hp) :=
  f_X9_goes_248 v0 v1 v5 v7 v8 v9 v10 v12 v15 v10 u0 u1 h
set_option maxHeartbeats 4000000 in
set_option maxRecDepth 100000 in
theorem w_X9_goes_246 {p : Program} {l : Launch} {e : Env} {s : State} {m : MethodId} {args : Array Value} {below : List Frame} {meth : Method} {c : Code} {D : va_G} {cA : Nat → ClassId} {sz : Nat} {rr : Int32} {hh : Hp}  (X : ab_X p s m args meth c cX9_goes 17 RX9 D cA sz) (hr : meth.sig.returnType = (some .int))  {H : Heap} {locs : List Loc} {ls : Array Slot} {v0 : Option Nat} {v1 : Int32} {v5 : UInt64} {v7 : Int32} {v8 : Int32} {v9 : Int32} {v10 : UInt64} {v12 : UInt64} {v15 : Int32} {u0 : Int32} {u1 : Option Nat} {h : Hp} (S : ab_H D cA sz h s H locs) (hl : lv_has ls 17 [(0, va_rf v0), (1, .int v1), (5, .double v5), (7, .int v7), (8, .int v8), (9, .int v9), (10, .double v10), (12, .double v12), (15, .int v15)]) (hF : f_X9_goes_246 v0 v1 v5 v7 v8 v9 v10 v12 v15 u0 u1 h = some (rr, hh)) : W p l e (ab_rm 8 0 0) s m args below meth c H locs 0 0 (MQ below (ab_Q D cA sz (some (.int rr)) hh) args s 0 0 (fun q => sz ≤ q)) (F0 m 246 ls [.int u0, va_rf u1]) := by
  unfold f_X9_goes_246 at hF
  refine lv_dload X.1 X.2.1 dX9_goes_246 (lv_at hl 6 rfl) ?_
  exact w_X9_goes_248 X hr  S (lv_sub hl [0, 1, 2, 3, 4, 5, 6, 7, 8] rfl) hF
def f_X9_goes_209  (v0 : Option Nat) (v1 : Int32) (v5 : UInt64) (v7 : Int32) (v8 : Int32) (v9 : Int32) (v10 : UInt64) (v12 : UInt64) (u0 : Int32) (h : Hp) : Option (Int32 × Hp) :=
  if ¬ u0 = 0 then
    f_X9_goes_249 v0 v1 v5 v7 v8 v9 v10 v12 u0 h
  else
    (getR h v0 9 26).bind fun x2 =>
    (getR h v0 9 16).bind fun x3 =>
    (aldI h x3 11 v1).bind fun x4 =>
    if ¬ x4 = 4 then
      f_X9_goes_246 v0 v1 v5 v7 v8 v9 v10 v12 u0 v1 x2 h
    else
      if ¬ v9 = 0 then
        f_X9_goes_246 v0 v1 v5 v7 v8 v9 v10 v12 u0 v1 x2 h
      else
        bnd (f_X9_longer v10 v12 h) fun x7 h8 =>
        f_X9_goes_248 v0 v1 v5 v7 v8 v9 v10 v12 u0 x7 v1 x2 h8
set_option maxHeartbeats 4000000 in
set_option maxRecDepth 100000 in
theorem w_X9_goes_209 {p : Program} {l : Launch} {e : Env} {s : State} {m : MethodId} {args : Array Value} {below : List Frame} {meth : Method} {c : Code} {D : va_G} {cA : Nat → ClassId} {sz : Nat} {rr : Int32} {hh : Hp}  (X : ab_X p s m args meth c cX9_goes 17 RX9 D cA sz) (hr : meth.sig.returnType = (some .int))  {H : Heap} {locs : List Loc} {ls : Array Slot} {v0 : Option Nat} {v1 : Int32} {v5 : UInt64} {v7 : Int32} {v8 : Int32} {v9 : Int32} {v10 : UInt64} {v12 : UInt64} {u0 : Int32} {h : Hp} (S : ab_H D cA sz h s H locs) (hl : lv_has ls 17 [(0, va_rf v0), (1, .int v1), (5, .double v5), (7, .int v7), (8, .int v8), (9, .int v9), (10, .double v10), (12, .double v12)]) (hF : f_X9_goes_209 v0 v1 v5 v7 v8 v9 v10 v12 u0 h = some (rr, hh)) : W p l e (ab_rm 8 0 0) s m args below meth c H locs 0 0 (MQ below (ab_Q D cA sz (some (.int rr)) hh) args s 0 0 (fun q => sz ≤ q)) (F0 m 209 ls [.int u0]) := by
  unfold f_X9_goes_209 at hF
  refine lv_istore (lv' := [(15, .int u0), (0, va_rf v0), (1, .int v1), (5, .double v5), (7, .int v7), (8, .int v8), (9, .int v9), (10, .double v10), (12, .double v12)]) X.1 X.2.1 dX9_goes_209 hl (by decide) (by simp [ab_cat, ab_cI, ab_cJ, ab_cD, ab_cF]) (fun ls hl => ?_)
  refine lv_iload X.1 X.2.1 dX9_goes_211 (lv_at hl 0 rfl) ?_
  refine lv_if_ne (tgt := 249) X.1 X.2.1 dX9_goes_213 (by decide) (fun c1 => ?_) (fun c1 => ?_)
  · have hF := ab_pos c1 hF
    exact w_X9_goes_249 X hr  S (lv_sub hl [1, 2, 3, 4, 5, 6, 7, 8, 0] rfl) hF
  · have hF := ab_neg (fun q => q c1) hF
    refine ab_aload_n X dX9_goes_216 rfl (lv_at hl 1 rfl) ?_
    refine ab_getR X S hF fi_9_26 lf_X9_86 dX9_goes_217 (fun x2 hF => ?_)
    refine lv_iload_n X.1 X.2.1 dX9_goes_220 rfl (lv_at hl 2 rfl) ?_
    refine ab_aload_n X dX9_goes_221 rfl (lv_at hl 1 rfl) ?_
    refine ab_getR X S hF fi_9_16 lf_X9_55 dX9_goes_222 (fun x3 hF => ?_)
    refine lv_iload_n X.1 X.2.1 dX9_goes_225 rfl (lv_at hl 2 rfl) ?_
    refine ab_aldI X S hF dX9_goes_226 (fun x4 hF => ?_)
    refine lv_iconst (v := 4) X.1 X.2.1 dX9_goes_227 (by decide) ?_
    refine lv_icmp_ne (tgt := 246) X.1 X.2.1 dX9_goes_228 (by decide) (fun c5 => ?_) (fun c5 => ?_)
    · have hF := ab_pos c5 hF
      exact w_X9_goes_246 X hr  S (lv_sub hl [1, 2, 3, 4, 5, 6, 7, 8, 0] rfl) hF
    · have hF := ab_neg (fun q => q c5) hF
      refine lv_iload X.1 X.2.1 dX9_goes_231 (lv_at hl 6 rfl) ?_
      refine lv_if_ne (tgt := 246) X.1 X.2.1 dX9_goes_233 (by decide) (fun c6 => ?_) (fun c6 => ?_)
      · have hF := ab_pos c6 hF
        exact w_X9_goes_246 X hr  S (lv_sub hl [1, 2, 3, 4, 5, 6, 7, 8, 0] rfl) hF
      · have hF := ab_neg (fun q => q c6) hF
        refine lv_dload X.1 X.2.1 dX9_goes_236 (lv_at hl 7 rfl) ?_
        refine lv_dload X.1 X.2.1 dX9_goes_238 (lv_at hl 8 rfl) ?_
        obtain ⟨x7, h8, e9, hF⟩ := bnd_out hF
        refine ab_callSd X S (c_X9_longer l D cA sz e9) mi_X9_longer lm_X9_311 lt_yX9_longer (As := [.double v10, .double v12]) (rest := [.int v1, va_rf x2]) rfl ⟨by decide, by decide⟩ ⟨(by decide), (by decide)⟩ hl.1 rfl (by simp [ab_cat, ab_cI, ab_cJ, ab_cD, ab_cF]) dX9_goes_240 (fun H1 locs1 S => ?_)
        refine lv_goto (tgt := 248) X.1 X.2.1 dX9_goes_243 (by decide) ?_
        exact w_X9_goes_248 X hr  S (lv_sub hl [1, 2, 3, 4, 5, 6, 7, 8, 0] rfl) hF
def f_X9_goes_208  (v0 : Option Nat) (v1 : Int32) (v5 : UInt64) (v7 : Int32) (v8 : Int32) (v9 : Int32) (v10 : UInt64) (v12 : UInt64) (h : Hp) : Option (Int32 × Hp) :=
  f_X9_goes_209 v0 v1 v5 v7 v8 v9 v10 v12 0 h
set_option maxHeartbeats 4000000 in
set_option maxRecDepth 100000 in
theorem w_X9_goes_208 {p : Program} {l : Launch} {e : Env} {s : State} {m : MethodId} {args : Array Value} {below : List Frame} {meth : Method} {c : Code} {D : va_G} {cA : Nat → ClassId} {sz : Nat} {rr : Int32} {hh : Hp}  (X : ab_X p s m args meth c cX9_goes 17 RX9 D cA sz) (hr : meth.sig.returnType = (some .int))  {H : Heap} {locs : List Loc} {ls : Array Slot} {v0 : Option Nat} {v1 : Int32} {v5 : UInt64} {v7 : Int32} {v8 : Int32} {v9 : Int32} {v10 : UInt64} {v12 : UInt64} {h : Hp} (S : ab_H D cA sz h s H locs) (hl : lv_has ls 17 [(0, va_rf v0), (1, .int v1), (5, .double v5), (7, .int v7), (8, .int v8), (9, .int v9), (10, .double v10), (12, .double v12)]) (hF : f_X9_goes_208 v0 v1 v5 v7 v8 v9 v10 v12 h = some (rr, hh)) : W p l e (ab_rm 8 0 0) s m args below meth c H locs 0 0 (MQ below (ab_Q D cA sz (some (.int rr)) hh) args s 0 0 (fun q => sz ≤ q)) (F0 m 208 ls []) := by
  unfold f_X9_goes_208 at hF
  refine lv_iconst (v := 0) X.1 X.2.1 dX9_goes_208 (by decide) ?_
  exact w_X9_goes_209 X hr  S (lv_sub hl [0, 1, 2, 3, 4, 5, 6, 7] rfl) hF
def f_X9_goes_174 (k_64 : Option Nat → Int32 → Int32 → UInt64 → Int32 → Int32 → Int32 → UInt64 → UInt64 → Int32 → Hp → Option (Int32 × Hp)) (v0 : Option Nat) (v1 : Int32) (v4 : Int32) (v5 : UInt64) (v7 : Int32) (v8 : Int32) (v9 : Int32) (v12 : UInt64) (v14 : Int32) (u0 : UInt64) (h : Hp) : Option (Int32 × Hp) :=
  bnd (f_X9_size u0 h) fun x1 h2 =>
  if 0 ≤ (Op.cmpValue (FP.dcmp x1 4472074429978902528) CmpOp.g) then
    k_64 v0 v1 v4 v5 v7 v8 (v9 + 1) u0 v12 v14 h2
  else
    some ((-5), h2)
set_option maxHeartbeats 4000000 in
set_option maxRecDepth 100000 in
theorem w_X9_goes_174 {p : Program} {l : Launch} {e : Env} {s : State} {m : MethodId} {args : Array Value} {below : List Frame} {meth : Method} {c : Code} {D : va_G} {cA : Nat → ClassId} {sz : Nat} {rr : Int32} {hh : Hp} {k_64 : Option Nat → Int32 → Int32 → UInt64 → Int32 → Int32 → Int32 → UInt64 → UInt64 → Int32 → Hp → Option (Int32 × Hp)} (X : ab_X p s m args meth c cX9_goes 17 RX9 D cA sz) (hr : meth.sig.returnType = (some .int)) (hk_64 : ∀ (v0 : Option Nat) (v1 : Int32) (v4 : Int32) (v5 : UInt64) (v7 : Int32) (v8 : Int32) (v9 : Int32) (v10 : UInt64) (v12 : UInt64) (v14 : Int32) (h : Hp) (H : Heap) (locs : List Loc) (ls : Array Slot), ab_H D cA sz h s H locs → lv_has ls 17 [(0, va_rf v0), (1, .int v1), (4, .int v4), (5, .double v5), (7, .int v7), (8, .int v8), (9, .int v9), (10, .double v10), (12, .double v12), (14, .int v14)] → k_64 v0 v1 v4 v5 v7 v8 v9 v10 v12 v14 h = some (rr, hh) → W p l e (ab_rm 8 0 0) s m args below meth c H locs 0 0 (MQ below (ab_Q D cA sz (some (.int rr)) hh) args s 0 0 (fun q => sz ≤ q)) (F0 m 64 ls [])) {H : Heap} {locs : List Loc} {ls : Array Slot} {v0 : Option Nat} {v1 : Int32} {v4 : Int32} {v5 : UInt64} {v7 : Int32} {v8 : Int32} {v9 : Int32} {v12 : UInt64} {v14 : Int32} {u0 : UInt64} {h : Hp} (S : ab_H D cA sz h s H locs) (hl : lv_has ls 17 [(0, va_rf v0), (1, .int v1), (4, .int v4), (5, .double v5), (7, .int v7), (8, .int v8), (9, .int v9), (12, .double v12), (14, .int v14)]) (hF : f_X9_goes_174 k_64 v0 v1 v4 v5 v7 v8 v9 v12 v14 u0 h = some (rr, hh)) : W p l e (ab_rm 8 0 0) s m args below meth c H locs 0 0 (MQ below (ab_Q D cA sz (some (.int rr)) hh) args s 0 0 (fun q => sz ≤ q)) (F0 m 174 ls [.double u0]) := by
  unfold f_X9_goes_174 at hF
  refine lv_dstore (lv' := [(10, .double u0), (0, va_rf v0), (1, .int v1), (4, .int v4), (5, .double v5), (7, .int v7), (8, .int v8), (9, .int v9), (12, .double v12), (14, .int v14)]) X.1 X.2.1 dX9_goes_174 hl (by decide) (by simp [ab_cat, ab_cI, ab_cJ, ab_cD, ab_cF]) (fun ls hl => ?_)
  refine lv_iinc (v := v9 + 1) (lv' := [(9, .int (v9 + 1)), (10, .double u0), (0, va_rf v0), (1, .int v1), (4, .int v4), (5, .double v5), (7, .int v7), (8, .int v8), (12, .double v12), (14, .int v14)]) X.1 X.2.1 dX9_goes_176 hl (k := 7) rfl (by rfl) (by decide) (by simp [ab_cat, ab_cI, ab_cJ, ab_cD, ab_cF]) (fun ls hl => ?_)
  refine lv_dload X.1 X.2.1 dX9_goes_179 (lv_at hl 1 rfl) ?_
  obtain ⟨x1, h2, e3, hF⟩ := bnd_out hF
  refine ab_callSd X S (c_X9_size l D cA sz e3) mi_X9_size lm_X9_221 lt_yX9_size (As := [.double u0]) (rest := []) rfl ⟨by decide, by decide⟩ ⟨(by decide), (by decide)⟩ hl.1 rfl (by simp [ab_cat, ab_cI, ab_cJ, ab_cD, ab_cF]) dX9_goes_181 (fun H1 locs1 S => ?_)
  refine lv_ldc2d (v := 4472074429978902528) X.1 X.2.1 X.2.2.2.1 (X.2.2.2.2.1 _ ld_X9_309) dX9_goes_184 ?_
  refine lv_dcmp X.1 X.2.1 dX9_goes_187 ?_
  refine lv_if_ge (tgt := 64) X.1 X.2.1 dX9_goes_188 (by decide) (fun c4 => ?_) (fun c4 => ?_)
  · have hF := ab_pos c4 hF
    exact hk_64 _ _ _ _ _ _ _ _ _ _ _ _ _ _ S (lv_sub hl [2, 3, 4, 5, 6, 7, 0, 1, 8, 9] rfl) hF
  · have hF := ab_neg c4 hF
    refine lv_bipush (v := (-5)) X.1 X.2.1 dX9_goes_191 (by decide) ?_
    exact ab_iret X S hr hF dX9_goes_193
def f_X9_goes_140 (k_64 : Option Nat → Int32 → Int32 → UInt64 → Int32 → Int32 → Int32 → UInt64 → UInt64 → Int32 → Hp → Option (Int32 × Hp)) (v0 : Option Nat) (v1 : Int32) (v4 : Int32) (v5 : UInt64) (v7 : Int32) (v8 : Int32) (v9 : Int32) (v10 : UInt64) (v12 : UInt64) (u0 : Int32) (h : Hp) : Option (Int32 × Hp) :=
  if u0 = 0 then
    if 0 < (Op.cmpValue (FP.dcmp v12 4620693217682128896) CmpOp.g) then
      (fop (FP.ddiv v10 4616189618054758400)).bind fun x3 =>
      f_X9_goes_174 k_64 v0 v1 v4 v5 v7 v8 v9 v12 u0 x3 h
    else
      (fop (FP.ddiv v10 4611686018427387904)).bind fun x4 =>
      f_X9_goes_174 k_64 v0 v1 v4 v5 v7 v8 v9 v12 u0 x4 h
  else
    k_64 v0 v1 v4 v5 v7 v8 v9 v10 v12 u0 h
set_option maxHeartbeats 4000000 in
set_option maxRecDepth 100000 in
theorem w_X9_goes_140 {p : Program} {l : Launch} {e : Env} {s : State} {m : MethodId} {args : Array Value} {below : List Frame} {meth : Method} {c : Code} {D : va_G} {cA : Nat → ClassId} {sz : Nat} {rr : Int32} {hh : Hp} {k_64 : Option Nat → Int32 → Int32 → UInt64 → Int32 → Int32 → Int32 → UInt64 → UInt64 → Int32 → Hp → Option (Int32 × Hp)} (X : ab_X p s m args meth c cX9_goes 17 RX9 D cA sz) (hr : meth.sig.returnType = (some .int)) (hk_64 : ∀ (v0 : Option Nat) (v1 : Int32) (v4 : Int32) (v5 : UInt64) (v7 : Int32) (v8 : Int32) (v9 : Int32) (v10 : UInt64) (v12 : UInt64) (v14 : Int32) (h : Hp) (H : Heap) (locs : List Loc) (ls : Array Slot), ab_H D cA sz h s H locs → lv_has ls 17 [(0, va_rf v0), (1, .int v1), (4, .int v4), (5, .double v5), (7, .int v7), (8, .int v8), (9, .int v9), (10, .double v10), (12, .double v12), (14, .int v14)] → k_64 v0 v1 v4 v5 v7 v8 v9 v10 v12 v14 h = some (rr, hh) → W p l e (ab_rm 8 0 0) s m args below meth c H locs 0 0 (MQ below (ab_Q D cA sz (some (.int rr)) hh) args s 0 0 (fun q => sz ≤ q)) (F0 m 64 ls [])) {H : Heap} {locs : List Loc} {ls : Array Slot} {v0 : Option Nat} {v1 : Int32} {v4 : Int32} {v5 : UInt64} {v7 : Int32} {v8 : Int32} {v9 : Int32} {v10 : UInt64} {v12 : UInt64} {u0 : Int32} {h : Hp} (S : ab_H D cA sz h s H locs) (hl : lv_has ls 17 [(0, va_rf v0), (1, .int v1), (4, .int v4), (5, .double v5), (7, .int v7), (8, .int v8), (9, .int v9), (10, .double v10), (12, .double v12)]) (hF : f_X9_goes_140 k_64 v0 v1 v4 v5 v7 v8 v9 v10 v12 u0 h = some (rr, hh)) : W p l e (ab_rm 8 0 0) s m args below meth c H locs 0 0 (MQ below (ab_Q D cA sz (some (.int rr)) hh) args s 0 0 (fun q => sz ≤ q)) (F0 m 140 ls [.int u0]) := by
  unfold f_X9_goes_140 at hF
  refine lv_istore (lv' := [(14, .int u0), (0, va_rf v0), (1, .int v1), (4, .int v4), (5, .double v5), (7, .int v7), (8, .int v8), (9, .int v9), (10, .double v10), (12, .double v12)]) X.1 X.2.1 dX9_goes_140 hl (by decide) (by simp [ab_cat, ab_cI, ab_cJ, ab_cD, ab_cF]) (fun ls hl => ?_)
  refine lv_iload X.1 X.2.1 dX9_goes_142 (lv_at hl 0 rfl) ?_
  refine lv_if_eq (tgt := 150) X.1 X.2.1 dX9_goes_144 (by decide) (fun c1 => ?_) (fun c1 => ?_)
  · have hF := ab_pos c1 hF
    refine lv_dload X.1 X.2.1 dX9_goes_150 (lv_at hl 9 rfl) ?_
    refine lv_ldc2d (v := 4620693217682128896) X.1 X.2.1 X.2.2.2.1 (X.2.2.2.2.1 _ ld_X9_297) dX9_goes_152 ?_
    refine lv_dcmp X.1 X.2.1 dX9_goes_155 ?_
    refine lv_if_gt (tgt := 168) X.1 X.2.1 dX9_goes_156 (by decide) (fun c2 => ?_) (fun c2 => ?_)
    · have hF := ab_pos c2 hF
      refine lv_dload X.1 X.2.1 dX9_goes_168 (lv_at hl 8 rfl) ?_
      refine lv_ldc2d (v := 4616189618054758400) X.1 X.2.1 X.2.2.2.1 (X.2.2.2.2.1 _ ld_X9_289) dX9_goes_170 ?_
      obtain ⟨x3, ev, ne, hF⟩ := ab_fopx hF
      refine lv_ddiv X.1 X.2.1 dX9_goes_173 ne ?_
      rw [ev]
      exact w_X9_goes_174 X hr hk_64 S (lv_sub hl [1, 2, 3, 4, 5, 6, 7, 9, 0] rfl) hF
    · have hF := ab_neg c2 hF
      refine lv_dload X.1 X.2.1 dX9_goes_159 (lv_at hl 8 rfl) ?_
      refine lv_ldc2d (v := 4611686018427387904) X.1 X.2.1 X.2.2.2.1 (X.2.2.2.2.1 _ ld_X9_285) dX9_goes_161 ?_
      obtain ⟨x4, ev, ne, hF⟩ := ab_fopx hF
      refine lv_ddiv X.1 X.2.1 dX9_goes_164 ne ?_
      rw [ev]
      refine lv_goto (tgt := 174) X.1 X.2.1 dX9_goes_165 (by decide) ?_
      exact w_X9_goes_174 X hr hk_64 S (lv_sub hl [1, 2, 3, 4, 5, 6, 7, 9, 0] rfl) hF
  · have hF := ab_neg c1 hF
    refine lv_goto (tgt := 64) X.1 X.2.1 dX9_goes_147 (by decide) ?_
    exact hk_64 _ _ _ _ _ _ _ _ _ _ _ _ _ _ S (lv_sub hl [1, 2, 3, 4, 5, 6, 7, 8, 9, 0] rfl) hF
def f_X9_goes_126 (k_64 : Option Nat → Int32 → Int32 → UInt64 → Int32 → Int32 → Int32 → UInt64 → UInt64 → Int32 → Hp → Option (Int32 × Hp)) (v0 : Option Nat) (v1 : Int32) (v4 : Int32) (v5 : UInt64) (v7 : Int32) (v8 : Int32) (v9 : Int32) (v10 : UInt64) (u0 : UInt64) (h : Hp) : Option (Int32 × Hp) :=
  if 0 < (Op.cmpValue (FP.dcmp u0 FP.dconst1) CmpOp.g) then
    f_X9_goes_140 k_64 v0 v1 v4 v5 v7 v8 v9 v10 u0 0 h
  else
    f_X9_goes_140 k_64 v0 v1 v4 v5 v7 v8 v9 v10 u0 1 h
set_option maxHeartbeats 4000000 in
set_option maxRecDepth 100000 in
theorem w_X9_goes_126 {p : Program} {l : Launch} {e : Env} {s : State} {m : MethodId} {args : Array Value} {below : List Frame} {meth : Method} {c : Code} {D : va_G} {cA : Nat → ClassId} {sz : Nat} {rr : Int32} {hh : Hp} {k_64 : Option Nat → Int32 → Int32 → UInt64 → Int32 → Int32 → Int32 → UInt64 → UInt64 → Int32 → Hp → Option (Int32 × Hp)} (X : ab_X p s m args meth c cX9_goes 17 RX9 D cA sz) (hr : meth.sig.returnType = (some .int)) (hk_64 : ∀ (v0 : Option Nat) (v1 : Int32) (v4 : Int32) (v5 : UInt64) (v7 : Int32) (v8 : Int32) (v9 : Int32) (v10 : UInt64) (v12 : UInt64) (v14 : Int32) (h : Hp) (H : Heap) (locs : List Loc) (ls : Array Slot), ab_H D cA sz h s H locs → lv_has ls 17 [(0, va_rf v0), (1, .int v1), (4, .int v4), (5, .double v5), (7, .int v7), (8, .int v8), (9, .int v9), (10, .double v10), (12, .double v12), (14, .int v14)] → k_64 v0 v1 v4 v5 v7 v8 v9 v10 v12 v14 h = some (rr, hh) → W p l e (ab_rm 8 0 0) s m args below meth c H locs 0 0 (MQ below (ab_Q D cA sz (some (.int rr)) hh) args s 0 0 (fun q => sz ≤ q)) (F0 m 64 ls [])) {H : Heap} {locs : List Loc} {ls : Array Slot} {v0 : Option Nat} {v1 : Int32} {v4 : Int32} {v5 : UInt64} {v7 : Int32} {v8 : Int32} {v9 : Int32} {v10 : UInt64} {u0 : UInt64} {h : Hp} (S : ab_H D cA sz h s H locs) (hl : lv_has ls 17 [(0, va_rf v0), (1, .int v1), (4, .int v4), (5, .double v5), (7, .int v7), (8, .int v8), (9, .int v9), (10, .double v10)]) (hF : f_X9_goes_126 k_64 v0 v1 v4 v5 v7 v8 v9 v10 u0 h = some (rr, hh)) : W p l e (ab_rm 8 0 0) s m args below meth c H locs 0 0 (MQ below (ab_Q D cA sz (some (.int rr)) hh) args s 0 0 (fun q => sz ≤ q)) (F0 m 126 ls [.double u0]) := by
  unfold f_X9_goes_126 at hF
  refine lv_dstore (lv' := [(12, .double u0), (0, va_rf v0), (1, .int v1), (4, .int v4), (5, .double v5), (7, .int v7), (8, .int v8), (9, .int v9), (10, .double v10)]) X.1 X.2.1 dX9_goes_126 hl (by decide) (by simp [ab_cat, ab_cI, ab_cJ, ab_cD, ab_cF]) (fun ls hl => ?_)
  refine lv_dload X.1 X.2.1 dX9_goes_128 (lv_at hl 0 rfl) ?_
  refine lv_dconst1 X.1 X.2.1 dX9_goes_130 ?_
  refine lv_dcmp X.1 X.2.1 dX9_goes_131 ?_
  refine lv_if_gt (tgt := 139) X.1 X.2.1 dX9_goes_132 (by decide) (fun c1 => ?_) (fun c1 => ?_)
  · have hF := ab_pos c1 hF
    refine lv_iconst (v := 0) X.1 X.2.1 dX9_goes_139 (by decide) ?_
    exact w_X9_goes_140 X hr hk_64 S (lv_sub hl [1, 2, 3, 4, 5, 6, 7, 8, 0] rfl) hF
  · have hF := ab_neg c1 hF
    refine lv_iconst (v := 1) X.1 X.2.1 dX9_goes_135 (by decide) ?_
    refine lv_goto (tgt := 140) X.1 X.2.1 dX9_goes_136 (by decide) ?_
    exact w_X9_goes_140 X hr hk_64 S (lv_sub hl [1, 2, 3, 4, 5, 6, 7, 8, 0] rfl) hF
def f_X9_goes_64  : Nat → Option Nat → Int32 → Int32 → UInt64 → Int32 → Int32 → Int32 → UInt64 → UInt64 → Int32 → Hp → Option (Int32 × Hp)
  | 0, _, _, _, _, _, _, _, _, _, _, _ => none
  | n + 1, v0, v1, v4, v5, v7, v8, v9, v10, v12, v14, h => if ¬ v14 = 0 then
      if v4 = 0 then
        f_X9_goes_208 v0 v1 v5 v7 v8 v9 v10 v12 h
      else
        if ¬ v9 = 0 then
          f_X9_goes_208 v0 v1 v5 v7 v8 v9 v10 v12 h
        else
          f_X9_goes_209 v0 v1 v5 v7 v8 v9 v10 v12 1 h
    else
      if ¬ v9 = 20 then
        (getR h v0 9 16).bind fun x5 =>
        (aldI h x5 11 v1).bind fun x6 =>
        (getR h v0 9 25).bind fun x7 =>
        (aldD h x7 v1).bind fun x8 =>
        (ab_ck h v0 (9, 0)).bind fun a12 =>
        bnd (f_X9_made a12 v7 x6 x8 v10 h) fun x9 h10 =>
        if x9 = 0 then
          (getR h10 v0 9 16).bind fun x15 =>
          (aldI h10 x15 11 v1).bind fun x16 =>
          if ¬ x16 = 4 then
            f_X9_goes_126 (f_X9_goes_64 n) v0 v1 v4 v5 v7 v8 v9 v10 FP.dconst0 h10
          else
            (ab_ck h10 v0 (9, 0)).bind fun a21 =>
            bnd (f_X9_greatestRatio a21 v1 v8 h10) fun x18 h19 =>
            f_X9_goes_126 (f_X9_goes_64 n) v0 v1 v4 v5 v7 v8 v9 v10 x18 h19
        else
          some ((-4), h10)
      else
        some ((-5), h)
set_option maxHeartbeats 4000000 in
set_option maxRecDepth 100000 in
theorem w_X9_goes_64 {p : Program} {l : Launch} {e : Env} {s : State} {m : MethodId} {args : Array Value} {below : List Frame} {meth : Method} {c : Code} {D : va_G} {cA : Nat → ClassId} {sz : Nat} {rr : Int32} {hh : Hp}  (X : ab_X p s m args meth c cX9_goes 17 RX9 D cA sz) (hr : meth.sig.returnType = (some .int))  (n : Nat) : ∀ (v0 : Option Nat) (v1 : Int32) (v4 : Int32) (v5 : UInt64) (v7 : Int32) (v8 : Int32) (v9 : Int32) (v10 : UInt64) (v12 : UInt64) (v14 : Int32) (h : Hp) (H : Heap) (locs : List Loc) (ls : Array Slot), ab_H D cA sz h s H locs → lv_has ls 17 [(0, va_rf v0), (1, .int v1), (4, .int v4), (5, .double v5), (7, .int v7), (8, .int v8), (9, .int v9), (10, .double v10), (12, .double v12), (14, .int v14)] → f_X9_goes_64 n v0 v1 v4 v5 v7 v8 v9 v10 v12 v14 h = some (rr, hh) → W p l e (ab_rm 8 0 0) s m args below meth c H locs 0 0 (MQ below (ab_Q D cA sz (some (.int rr)) hh) args s 0 0 (fun q => sz ≤ q)) (F0 m 64 ls []) := by
  induction n with
  | zero => intro v0 v1 v4 v5 v7 v8 v9 v10 v12 v14 h H locs ls S hl hF; cases hF
  | succ n ih =>
    intro v0 v1 v4 v5 v7 v8 v9 v10 v12 v14 h H locs ls S hl hF
    rw [f_X9_goes_64] at hF
    refine lv_iload X.1 X.2.1 dX9_goes_64 (lv_at hl 9 rfl) ?_
    refine lv_if_ne (tgt := 194) X.1 X.2.1 dX9_goes_66 (by decide) (fun c1 => ?_) (fun c1 => ?_)
    · have hF := ab_pos c1 hF
      refine lv_iload X.1 X.2.1 dX9_goes_194 (lv_at hl 2 rfl) ?_
      refine lv_if_eq (tgt := 208) X.1 X.2.1 dX9_goes_196 (by decide) (fun c2 => ?_) (fun c2 => ?_)
      · have hF := ab_pos c2 hF
        exact w_X9_goes_208 X hr  S (lv_sub hl [0, 1, 3, 4, 5, 6, 7, 8] rfl) hF
      · have hF := ab_neg c2 hF
        refine lv_iload X.1 X.2.1 dX9_goes_199 (lv_at hl 6 rfl) ?_
        refine lv_if_ne (tgt := 208) X.1 X.2.1 dX9_goes_201 (by decide) (fun c3 => ?_) (fun c3 => ?_)
        · have hF := ab_pos c3 hF
          exact w_X9_goes_208 X hr  S (lv_sub hl [0, 1, 3, 4, 5, 6, 7, 8] rfl) hF
        · have hF := ab_neg (fun q => q c3) hF
          refine lv_iconst (v := 1) X.1 X.2.1 dX9_goes_204 (by decide) ?_
          refine lv_goto (tgt := 209) X.1 X.2.1 dX9_goes_205 (by decide) ?_
          exact w_X9_goes_209 X hr  S (lv_sub hl [0, 1, 3, 4, 5, 6, 7, 8] rfl) hF
    · have hF := ab_neg (fun q => q c1) hF
      refine lv_iload X.1 X.2.1 dX9_goes_69 (lv_at hl 6 rfl) ?_
      refine lv_bipush (v := 20) X.1 X.2.1 dX9_goes_71 (by decide) ?_
      refine lv_icmp_ne (tgt := 79) X.1 X.2.1 dX9_goes_73 (by decide) (fun c4 => ?_) (fun c4 => ?_)
      · have hF := ab_pos c4 hF
        refine ab_aload_n X dX9_goes_79 rfl (lv_at hl 0 rfl) ?_
        refine lv_iload X.1 X.2.1 dX9_goes_80 (lv_at hl 4 rfl) ?_
        refine ab_aload_n X dX9_goes_82 rfl (lv_at hl 0 rfl) ?_
        refine ab_getR X S hF fi_9_16 lf_X9_55 dX9_goes_83 (fun x5 hF => ?_)
        refine lv_iload_n X.1 X.2.1 dX9_goes_86 rfl (lv_at hl 1 rfl) ?_
        refine ab_aldI X S hF dX9_goes_87 (fun x6 hF => ?_)
        refine ab_aload_n X dX9_goes_88 rfl (lv_at hl 0 rfl) ?_
        refine ab_getR X S hF fi_9_25 lf_X9_83 dX9_goes_89 (fun x7 hF => ?_)
        refine lv_iload_n X.1 X.2.1 dX9_goes_92 rfl (lv_at hl 1 rfl) ?_
        refine ab_aldD X S hF dX9_goes_93 (fun x8 hF => ?_)
        refine lv_dload X.1 X.2.1 dX9_goes_94 (lv_at hl 7 rfl) ?_
        obtain ⟨a12, e13, hF⟩ := bind_out hF
        obtain ⟨x9, h10, e11, hF⟩ := bnd_out hF
        refine ab_callVi X S e13 (c_X9_made l D cA sz e11) rfl (by decide) mi_X9_made lm_X9_301 li_yX9_made ls_yX9_made (As := [.int v7, .int x6, .double x8, .double v10]) (rest := []) rfl ⟨by decide, by decide⟩ ⟨(by decide), (by decide)⟩ hl.1 rfl (by simp [ab_cat, ab_cI, ab_cJ, ab_cD, ab_cF]) dX9_goes_96 (fun H1 locs1 S => ?_)
        refine lv_if_eq (tgt := 105) X.1 X.2.1 dX9_goes_99 (by decide) (fun c14 => ?_) (fun c14 => ?_)
        · have hF := ab_pos c14 hF
          refine ab_aload_n X dX9_goes_105 rfl (lv_at hl 0 rfl) ?_
          refine ab_getR X S hF fi_9_16 lf_X9_55 dX9_goes_106 (fun x15 hF => ?_)
          refine lv_iload_n X.1 X.2.1 dX9_goes_109 rfl (lv_at hl 1 rfl) ?_
          refine ab_aldI X S hF dX9_goes_110 (fun x16 hF => ?_)
          refine lv_iconst (v := 4) X.1 X.2.1 dX9_goes_111 (by decide) ?_
          refine lv_icmp_ne (tgt := 125) X.1 X.2.1 dX9_goes_112 (by decide) (fun c17 => ?_) (fun c17 => ?_)
          · have hF := ab_pos c17 hF
            refine lv_dconst0 X.1 X.2.1 dX9_goes_125 ?_
            exact w_X9_goes_126 X hr ih S (lv_sub hl [0, 1, 2, 3, 4, 5, 6, 7] rfl) hF
          · have hF := ab_neg (fun q => q c17) hF
            refine ab_aload_n X dX9_goes_115 rfl (lv_at hl 0 rfl) ?_
            refine lv_iload_n X.1 X.2.1 dX9_goes_116 rfl (lv_at hl 1 rfl) ?_
            refine lv_iload X.1 X.2.1 dX9_goes_117 (lv_at hl 5 rfl) ?_
            obtain ⟨a21, e22, hF⟩ := bind_out hF
            obtain ⟨x18, h19, e20, hF⟩ := bnd_out hF
            refine ab_callVd X S e22 (c_X9_greatestRatio l D cA sz e20) rfl (by decide) mi_X9_greatestRatio lm_X9_305 li_yX9_greatestRatio ls_yX9_greatestRatio (As := [.int v1, .int v8]) (rest := []) rfl ⟨by decide, by decide⟩ ⟨(by decide), (by decide)⟩ hl.1 rfl (by simp [ab_cat, ab_cI, ab_cJ, ab_cD, ab_cF]) dX9_goes_119 (fun H1 locs1 S => ?_)
            refine lv_goto (tgt := 126) X.1 X.2.1 dX9_goes_122 (by decide) ?_
            exact w_X9_goes_126 X hr ih S (lv_sub hl [0, 1, 2, 3, 4, 5, 6, 7] rfl) hF
        · have hF := ab_neg c14 hF
          refine lv_bipush (v := (-4)) X.1 X.2.1 dX9_goes_102 (by decide) ?_
          exact ab_iret X S hr hF dX9_goes_104
      · have hF := ab_neg (fun q => q c4) hF
        refine lv_bipush (v := (-5)) X.1 X.2.1 dX9_goes_76 (by decide) ?_
        exact ab_iret X S hr hF dX9_goes_78
def f_X9_goes_32  : Nat → Option Nat → Int32 → Int32 → UInt64 → Int32 → Int32 → Int32 → UInt64 → UInt64 → Int32 → Int32 → Hp → Option (Int32 × Hp)
  | 0, _, _, _, _, _, _, _, _, _, _, _, _ => none
  | n + 1, v0, v1, v4, v5, v7, v8, v9, v10, v12, v14, v15, h => if v8 ≤ v15 then
      f_X9_goes_64 fuelN v0 v1 v4 v5 v7 v8 v9 v10 v12 v14 h
    else
      (getR h v0 9 47).bind fun x2 =>
      (getR h v0 9 30).bind fun x3 =>
      (aldD h x3 ((6 * v1) + v15)).bind fun x4 =>
      (astD h x2 v15 x4).bind fun h5 =>
      f_X9_goes_32 n v0 v1 v4 v5 v7 v8 v9 v10 v12 v14 (v15 + 1) h5
set_option maxHeartbeats 4000000 in
set_option maxRecDepth 100000 in
theorem w_X9_goes_32 {p : Program} {l : Launch} {e : Env} {s : State} {m : MethodId} {args : Array Value} {below : List Frame} {meth : Method} {c : Code} {D : va_G} {cA : Nat → ClassId} {sz : Nat} {rr : Int32} {hh : Hp}  (X : ab_X p s m args meth c cX9_goes 17 RX9 D cA sz) (hr : meth.sig.returnType = (some .int))  (n : Nat) : ∀ (v0 : Option Nat) (v1 : Int32) (v4 : Int32) (v5 : UInt64) (v7 : Int32) (v8 : Int32) (v9 : Int32) (v10 : UInt64) (v12 : UInt64) (v14 : Int32) (v15 : Int32) (h : Hp) (H : Heap) (locs : List Loc) (ls : Array Slot), ab_H D cA sz h s H locs → lv_has ls 17 [(0, va_rf v0), (1, .int v1), (4, .int v4), (5, .double v5), (7, .int v7), (8, .int v8), (9, .int v9), (10, .double v10), (12, .double v12), (14, .int v14), (15, .int v15)] → f_X9_goes_32 n v0 v1 v4 v5 v7 v8 v9 v10 v12 v14 v15 h = some (rr, hh) → W p l e (ab_rm 8 0 0) s m args below meth c H locs 0 0 (MQ below (ab_Q D cA sz (some (.int rr)) hh) args s 0 0 (fun q => sz ≤ q)) (F0 m 32 ls []) := by
  induction n with
  | zero => intro v0 v1 v4 v5 v7 v8 v9 v10 v12 v14 v15 h H locs ls S hl hF; cases hF
  | succ n ih =>
    intro v0 v1 v4 v5 v7 v8 v9 v10 v12 v14 v15 h H locs ls S hl hF
    rw [f_X9_goes_32] at hF
    refine lv_iload X.1 X.2.1 dX9_goes_32 (lv_at hl 10 rfl) ?_
    refine lv_iload X.1 X.2.1 dX9_goes_34 (lv_at hl 5 rfl) ?_
    refine lv_icmp_ge (tgt := 64) X.1 X.2.1 dX9_goes_36 (by decide) (fun c1 => ?_) (fun c1 => ?_)
    · have hF := ab_pos c1 hF
      exact w_X9_goes_64 X hr  fuelN _ _ _ _ _ _ _ _ _ _ _ _ _ _ S (lv_sub hl [0, 1, 2, 3, 4, 5, 6, 7, 8, 9] rfl) hF
    · have hF := ab_neg c1 hF
      refine ab_aload_n X dX9_goes_39 rfl (lv_at hl 0 rfl) ?_
      refine ab_getR X S hF fi_9_47 lf_X9_146 dX9_goes_40 (fun x2 hF => ?_)
      refine lv_iload X.1 X.2.1 dX9_goes_43 (lv_at hl 10 rfl) ?_
      refine ab_aload_n X dX9_goes_45 rfl (lv_at hl 0 rfl) ?_
      refine ab_getR X S hF fi_9_30 lf_X9_98 dX9_goes_46 (fun x3 hF => ?_)
      refine lv_bipush (v := 6) X.1 X.2.1 dX9_goes_49 (by decide) ?_
      refine lv_iload_n X.1 X.2.1 dX9_goes_51 rfl (lv_at hl 1 rfl) ?_
      refine lv_imul X.1 X.2.1 dX9_goes_52 ?_
      refine lv_iload X.1 X.2.1 dX9_goes_53 (lv_at hl 10 rfl) ?_
      refine lv_iadd X.1 X.2.1 dX9_goes_55 ?_
      refine ab_aldD X S hF dX9_goes_56 (fun x4 hF => ?_)
      refine ab_astD X S hF dX9_goes_57 (fun h5 H1 locs1 hF S => ?_)
      refine lv_iinc (v := v15 + 1) (lv' := [(15, .int (v15 + 1)), (0, va_rf v0), (1, .int v1), (4, .int v4), (5, .double v5), (7, .int v7), (8, .int v8), (9, .int v9), (10, .double v10), (12, .double v12), (14, .int v14)]) X.1 X.2.1 dX9_goes_58 hl (k := 10) rfl (by rfl) (by decide) (by simp [ab_cat, ab_cI, ab_cJ, ab_cD, ab_cF]) (fun ls hl => ?_)
      refine lv_goto (tgt := 32) X.1 X.2.1 dX9_goes_61 (by decide) ?_
      exact ih _ _ _ _ _ _ _ _ _ _ _ _ _ _ _ S (lv_sub hl [1, 2, 3, 4, 5, 6, 7, 8, 9, 10, 0] rfl) hF
def f_X9_goes (this : Nat) (p0 : Int32) (p1 : UInt64) (p2 : Int32) (p3 : UInt64) (h : Hp) : Option (Int32 × Hp) :=
  (getR h (some this) 9 15).bind fun x1 =>
  (aldI h x1 11 p0).bind fun x2 =>
  (getR h (some this) 9 0).bind fun x3 =>
  (aldI h x3 11 x2).bind fun x4 =>
  f_X9_goes_32 fuelN (some this) p0 p2 p3 x2 x4 0 p1 FP.dconst0 0 0 h
theorem mi_X9_goes : ab_MI yX9_goes cX9_goes 17 (some .int) 4 := ⟨lc_yX9_goes, lz_RX9, by decide, by decide, by decide +kernel⟩
set_option maxHeartbeats 4000000 in
set_option maxRecDepth 100000 in
theorem c_X9_goes (l : Launch) (D : va_G) (cA : Nat → ClassId) (sz : Nat) {this : Nat} {p0 : Int32} {p1 : UInt64} {p2 : Int32} {p3 : UInt64} {h hh : Hp} {rr : Int32} (hF : f_X9_goes this p0 p1 p2 p3 h = some (rr, hh)) : ab_C l D cA sz yX9_goes cX9_goes 17 (some .int) 8 0 0 [.ref this, .int p0, .double p1, .int p2, .double p3] h (some (.int rr)) hh := by
  refine Met.ofW (cc := cX9_goes) (maxL := 17) (ret := (some .int)) (by decide) rfl ?_
  intro p e s m args below meth c s₁ B hml hv
  obtain ⟨rfl, hT, hR⟩ := hv
  have X : ab_X p s m _ meth c cX9_goes 17 RX9 D cA sz := (ab_enter B hml hT hR).1
  have S := (ab_enter B hml hT hR).2
  have hr := B.returns
  obtain ⟨ls, hls, hl⟩ := ab_entry m [.ref this, .int p0, .double p1, .int p2, .double p3] 17 (lv := [(0, .ref this), (1, .int p0), (2, .double p1), (4, .int p2), (5, .double p3)]) (by simp [lg_sl, ab_cat, ab_cI, ab_cJ, ab_cD, ab_cF, ab_cA]) (by simp [lv_args, ab_cat, ab_cI, ab_cJ, ab_cD, ab_cF, ab_cA])
  rw [hls]
  have hl : lv_has ls 17 [(0, va_rf (some this)), (1, .int p0), (2, .double p1), (4, .int p2), (5, .double p3)] := hl
  unfold f_X9_goes at hF
  show W p l e (ab_rm 8 0 0) s m _ below meth c s.heap [] 0 0 _ _
  refine ab_aload_n X dX9_goes_0 rfl (lv_at hl 0 rfl) ?_
  refine ab_getR X S hF fi_9_15 lf_X9_52 dX9_goes_1 (fun x1 hF => ?_)
  refine lv_iload_n X.1 X.2.1 dX9_goes_4 rfl (lv_at hl 1 rfl) ?_
  refine ab_aldI X S hF dX9_goes_5 (fun x2 hF => ?_)
  refine lv_istore (lv' := [(7, .int x2), (0, va_rf (some this)), (1, .int p0), (2, .double p1), (4, .int p2), (5, .double p3)]) X.1 X.2.1 dX9_goes_6 hl (by decide) (by simp [ab_cat, ab_cI, ab_cJ, ab_cD, ab_cF]) (fun ls hl => ?_)
  refine ab_aload_n X dX9_goes_8 rfl (lv_at hl 1 rfl) ?_
  refine ab_getR X S hF fi_9_0 lf_X9_9 dX9_goes_9 (fun x3 hF => ?_)
  refine lv_iload X.1 X.2.1 dX9_goes_12 (lv_at hl 0 rfl) ?_
  refine ab_aldI X S hF dX9_goes_14 (fun x4 hF => ?_)
  refine lv_istore (lv' := [(8, .int x4), (7, .int x2), (0, va_rf (some this)), (1, .int p0), (2, .double p1), (4, .int p2), (5, .double p3)]) X.1 X.2.1 dX9_goes_15 hl (by decide) (by simp [ab_cat, ab_cI, ab_cJ, ab_cD, ab_cF]) (fun ls hl => ?_)
  refine lv_iconst (v := 0) X.1 X.2.1 dX9_goes_17 (by decide) ?_
  refine lv_istore (lv' := [(9, .int 0), (8, .int x4), (7, .int x2), (0, va_rf (some this)), (1, .int p0), (2, .double p1), (4, .int p2), (5, .double p3)]) X.1 X.2.1 dX9_goes_18 hl (by decide) (by simp [ab_cat, ab_cI, ab_cJ, ab_cD, ab_cF]) (fun ls hl => ?_)
  refine lv_dload_n X.1 X.2.1 dX9_goes_20 rfl (lv_at hl 5 rfl) ?_
  refine lv_dstore (lv' := [(10, .double p1), (9, .int 0), (8, .int x4), (7, .int x2), (0, va_rf (some this)), (1, .int p0), (2, .double p1), (4, .int p2), (5, .double p3)]) X.1 X.2.1 dX9_goes_21 hl (by decide) (by simp [ab_cat, ab_cI, ab_cJ, ab_cD, ab_cF]) (fun ls hl => ?_)
  refine lv_dconst0 X.1 X.2.1 dX9_goes_23 ?_
  refine lv_dstore (lv' := [(12, .double FP.dconst0), (10, .double p1), (9, .int 0), (8, .int x4), (7, .int x2), (0, va_rf (some this)), (1, .int p0), (2, .double p1), (4, .int p2), (5, .double p3)]) X.1 X.2.1 dX9_goes_24 hl (by decide) (by simp [ab_cat, ab_cI, ab_cJ, ab_cD, ab_cF]) (fun ls hl => ?_)
  refine lv_iconst (v := 0) X.1 X.2.1 dX9_goes_26 (by decide) ?_
  refine lv_istore (lv' := [(14, .int 0), (12, .double FP.dconst0), (10, .double p1), (9, .int 0), (8, .int x4), (7, .int x2), (0, va_rf (some this)), (1, .int p0), (2, .double p1), (4, .int p2), (5, .double p3)]) X.1 X.2.1 dX9_goes_27 hl (by decide) (by simp [ab_cat, ab_cI, ab_cJ, ab_cD, ab_cF]) (fun ls hl => ?_)
  refine lv_iconst (v := 0) X.1 X.2.1 dX9_goes_29 (by decide) ?_
  refine lv_istore (lv' := [(15, .int 0), (14, .int 0), (12, .double FP.dconst0), (10, .double p1), (9, .int 0), (8, .int x4), (7, .int x2), (0, va_rf (some this)), (1, .int p0), (2, .double p1), (4, .int p2), (5, .double p3)]) X.1 X.2.1 dX9_goes_30 hl (by decide) (by simp [ab_cat, ab_cI, ab_cJ, ab_cD, ab_cF]) (fun ls hl => ?_)
  exact w_X9_goes_32 X hr  fuelN _ _ _ _ _ _ _ _ _ _ _ _ _ _ _ S (lv_sub hl [7, 8, 10, 11, 6, 5, 4, 3, 2, 1, 0] rfl) hF
