def f_X9_power_5  : Nat → UInt64 → Int32 → UInt64 → Int32 → Hp → Option (UInt64 × Hp)
  | 0, _, _, _, _, _ => none
  | n + 1, v0, v2, v3, v5, h => if v2 ≤ v5 then
      some (v3, h)
    else
      bnd (f_X9_times v3 v0 h) fun x2 h3 =>
      f_X9_power_5 n v0 v2 x2 (v5 + 1) h3
set_option maxHeartbeats 4000000 in
set_option maxRecDepth 100000 in
theorem w_X9_power_5 {p : Program} {l : Launch} {e : Env} {s : State} {m : MethodId} {args : Array Value} {below : List Frame} {meth : Method} {c : Code} {D : va_G} {cA : Nat → ClassId} {sz : Nat} {rr : UInt64} {hh : Hp}  (X : ab_X p s m args meth c cX9_power 6 RX9 D cA sz) (hr : meth.sig.returnType = (some .double))  (n : Nat) : ∀ (v0 : UInt64) (v2 : Int32) (v3 : UInt64) (v5 : Int32) (h : Hp) (H : Heap) (locs : List Loc) (ls : Array Slot), ab_H D cA sz h s H locs → lv_has ls 6 [(0, .double v0), (2, .int v2), (3, .double v3), (5, .int v5)] → f_X9_power_5 n v0 v2 v3 v5 h = some (rr, hh) → W p l e (ab_rm 2 0 0) s m args below meth c H locs 0 0 (MQ below (ab_Q D cA sz (some (.double rr)) hh) args s 0 0 (fun q => sz ≤ q)) (F0 m 5 ls []) := by
  induction n with
  | zero => intro v0 v2 v3 v5 h H locs ls S hl hF; cases hF
  | succ n ih =>
    intro v0 v2 v3 v5 h H locs ls S hl hF
    rw [f_X9_power_5] at hF
    refine lv_iload X.1 X.2.1 dX9_power_5 (lv_at hl 3 rfl) ?_
    refine lv_iload_n X.1 X.2.1 dX9_power_7 rfl (lv_at hl 1 rfl) ?_
    refine lv_icmp_ge (tgt := 23) X.1 X.2.1 dX9_power_8 (by decide) (fun c1 => ?_) (fun c1 => ?_)
    · have hF := ab_pos c1 hF
      refine lv_dload_n X.1 X.2.1 dX9_power_23 rfl (lv_at hl 2 rfl) ?_
      exact ab_dret X S hr hF dX9_power_24
    · have hF := ab_neg c1 hF
      refine lv_dload_n X.1 X.2.1 dX9_power_11 rfl (lv_at hl 2 rfl) ?_
      refine lv_dload_n X.1 X.2.1 dX9_power_12 rfl (lv_at hl 0 rfl) ?_
      obtain ⟨x2, h3, e4, hF⟩ := bnd_out hF
      refine ab_callSd X S (c_X9_times l D cA sz e4) mi_X9_times lm_X9_211 lt_yX9_times (As := [.double v3, .double v0]) (rest := []) rfl ⟨by decide, by decide⟩ ⟨(by decide), (by decide)⟩ hl.1 rfl (by simp [ab_cat, ab_cI, ab_cJ, ab_cD, ab_cF]) dX9_power_13 (fun H1 locs1 S => ?_)
      refine lv_dstore_n (i := 3) (lv' := [(3, .double x2), (0, .double v0), (2, .int v2), (5, .int v5)]) X.1 X.2.1 dX9_power_16 rfl hl (by decide) (by simp [ab_cat, ab_cI, ab_cJ, ab_cD, ab_cF]) (fun ls hl => ?_)
      refine lv_iinc (v := v5 + 1) (lv' := [(5, .int (v5 + 1)), (3, .double x2), (0, .double v0), (2, .int v2)]) X.1 X.2.1 dX9_power_17 hl (k := 3) rfl (by rfl) (by decide) (by simp [ab_cat, ab_cI, ab_cJ, ab_cD, ab_cF]) (fun ls hl => ?_)
      refine lv_goto (tgt := 5) X.1 X.2.1 dX9_power_20 (by decide) ?_
      exact ih _ _ _ _ _ _ _ _ S (lv_sub hl [2, 3, 1, 0] rfl) hF
def f_X9_power (p0 : UInt64) (p1 : Int32) (h : Hp) : Option (UInt64 × Hp) :=
  f_X9_power_5 fuelN p0 p1 FP.dconst1 0 h
theorem mi_X9_power : ab_MI yX9_power cX9_power 6 (some .double) 2 := ⟨lc_yX9_power, lz_RX9, by decide, by decide, by decide +kernel⟩
set_option maxHeartbeats 4000000 in
set_option maxRecDepth 100000 in
theorem c_X9_power (l : Launch) (D : va_G) (cA : Nat → ClassId) (sz : Nat) {p0 : UInt64} {p1 : Int32} {h hh : Hp} {rr : UInt64} (hF : f_X9_power p0 p1 h = some (rr, hh)) : ab_C l D cA sz yX9_power cX9_power 6 (some .double) 2 0 0 [.double p0, .int p1] h (some (.double rr)) hh := by
  refine Met.ofW (cc := cX9_power) (maxL := 6) (ret := (some .double)) (by decide) rfl ?_
  intro p e s m args below meth c s₁ B hml hv
  obtain ⟨rfl, hT, hR⟩ := hv
  have X : ab_X p s m _ meth c cX9_power 6 RX9 D cA sz := (ab_enter B hml hT hR).1
  have S := (ab_enter B hml hT hR).2
  have hr := B.returns
  obtain ⟨ls, hls, hl⟩ := ab_entry m [.double p0, .int p1] 6 (lv := [(0, .double p0), (2, .int p1)]) (by simp [lg_sl, ab_cat, ab_cI, ab_cJ, ab_cD, ab_cF, ab_cA]) (by simp [lv_args, ab_cat, ab_cI, ab_cJ, ab_cD, ab_cF, ab_cA])
  rw [hls]
  have hl : lv_has ls 6 [(0, .double p0), (2, .int p1)] := hl
  unfold f_X9_power at hF
  show W p l e (ab_rm 2 0 0) s m _ below meth c s.heap [] 0 0 _ _
  refine lv_dconst1 X.1 X.2.1 dX9_power_0 ?_
  refine lv_dstore_n (i := 3) (lv' := [(3, .double FP.dconst1), (0, .double p0), (2, .int p1)]) X.1 X.2.1 dX9_power_1 rfl hl (by decide) (by simp [ab_cat, ab_cI, ab_cJ, ab_cD, ab_cF]) (fun ls hl => ?_)
  refine lv_iconst (v := 0) X.1 X.2.1 dX9_power_2 (by decide) ?_
  refine lv_istore (lv' := [(5, .int 0), (3, .double FP.dconst1), (0, .double p0), (2, .int p1)]) X.1 X.2.1 dX9_power_3 hl (by decide) (by simp [ab_cat, ab_cI, ab_cJ, ab_cD, ab_cF]) (fun ls hl => ?_)
  exact w_X9_power_5 X hr  fuelN _ _ _ _ _ _ _ _ S (lv_sub hl [2, 3, 1, 0] rfl) hF
def f_X9_worth_272  (u0 : UInt64) (h : Hp) : Option (UInt64 × Hp) :=
  some (u0, h)
set_option maxHeartbeats 4000000 in
set_option maxRecDepth 100000 in
theorem w_X9_worth_272 {p : Program} {l : Launch} {e : Env} {s : State} {m : MethodId} {args : Array Value} {below : List Frame} {meth : Method} {c : Code} {D : va_G} {cA : Nat → ClassId} {sz : Nat} {rr : UInt64} {hh : Hp}  (X : ab_X p s m args meth c cX9_worth 9 RX9 D cA sz) (hr : meth.sig.returnType = (some .double))  {H : Heap} {locs : List Loc} {ls : Array Slot} {u0 : UInt64} {h : Hp} (S : ab_H D cA sz h s H locs) (hl : lv_has ls 9 []) (hF : f_X9_worth_272 u0 h = some (rr, hh)) : W p l e (ab_rm 3 0 0) s m args below meth c H locs 0 0 (MQ below (ab_Q D cA sz (some (.double rr)) hh) args s 0 0 (fun q => sz ≤ q)) (F0 m 272 ls [.double u0]) := by
  unfold f_X9_worth_272 at hF
  exact ab_dret X S hr hF dX9_worth_272
def f_X9_worth (this : Nat) (p0 : Int32) (p1 : Int32) (p2 : UInt64) (p3 : Option Nat) (h : Hp) : Option (UInt64 × Hp) :=
  (getR h (some this) 9 5).bind fun x1 =>
  (aldI h x1 11 ((48 * p0) + p1)).bind fun x2 =>
  (getR h (some this) 9 6).bind fun x3 =>
  (aldI h x3 11 ((48 * p0) + p1)).bind fun x4 =>
  (getR h (some this) 9 4).bind fun x5 =>
  (aldI h x5 11 ((48 * p0) + p1)).bind fun x6 =>
  if x6.toInt < 0 ∨ 12 < x6.toInt then
    (getR h (some this) 9 8).bind fun x8 =>
    (aldD h x8 ((48 * p0) + p1)).bind fun x9 =>
    some (x9, h)
  else if x6 = 0 then
    (aldD h p3 x2).bind fun x11 =>
    some (x11, h)
  else if x6 = 1 then
    some (p2, h)
  else if x6 = 2 then
    (getR h (some this) 9 46).bind fun x14 =>
    (aldD h x14 x2).bind fun x15 =>
    (getR h (some this) 9 46).bind fun x16 =>
    (aldD h x16 x4).bind fun x17 =>
    bnd (f_X9_plus x15 x17 h) fun x18 h19 =>
    some (x18, h19)
  else if x6 = 3 then
    (getR h (some this) 9 46).bind fun x22 =>
    (aldD h x22 x2).bind fun x23 =>
    (getR h (some this) 9 46).bind fun x24 =>
    (aldD h x24 x4).bind fun x25 =>
    bnd (f_X9_less x23 x25 h) fun x26 h27 =>
    some (x26, h27)
  else if x6 = 4 then
    (getR h (some this) 9 46).bind fun x30 =>
    (aldD h x30 x2).bind fun x31 =>
    (getR h (some this) 9 46).bind fun x32 =>
    (aldD h x32 x4).bind fun x33 =>
    bnd (f_X9_times x31 x33 h) fun x34 h35 =>
    some (x34, h35)
  else if x6 = 5 then
    (getR h (some this) 9 46).bind fun x38 =>
    (aldD h x38 x2).bind fun x39 =>
    (getR h (some this) 9 46).bind fun x40 =>
    (aldD h x40 x4).bind fun x41 =>
    bnd (f_X9_by x39 x41 h) fun x42 h43 =>
    some (x42, h43)
  else if x6 = 6 then
    (getR h (some this) 9 46).bind fun x46 =>
    (aldD h x46 x2).bind fun x47 =>
    bnd (f_X9_turned x47 h) fun x48 h49 =>
    some (x48, h49)
  else if x6 = 7 then
    (getR h (some this) 9 46).bind fun x52 =>
    (aldD h x52 x2).bind fun x53 =>
    bnd (f_X9_size x53 h) fun x54 h55 =>
    some (x54, h55)
  else if x6 = 8 then
    (getR h (some this) 9 46).bind fun x58 =>
    (aldD h x58 x2).bind fun x59 =>
    (getR h (some this) 9 46).bind fun x60 =>
    (aldD h x60 x4).bind fun x61 =>
    bnd (f_X9_least x59 x61 h) fun x62 h63 =>
    some (x62, h63)
  else if x6 = 9 then
    (getR h (some this) 9 46).bind fun x66 =>
    (aldD h x66 x2).bind fun x67 =>
    (getR h (some this) 9 46).bind fun x68 =>
    (aldD h x68 x4).bind fun x69 =>
    bnd (f_X9_greatest x67 x69 h) fun x70 h71 =>
    some (x70, h71)
  else if x6 = 10 then
    (getR h (some this) 9 46).bind fun x74 =>
    (aldD h x74 x2).bind fun x75 =>
    if 0 ≤ (Op.cmpValue (FP.dcmp x75 FP.dconst0) CmpOp.g) then
      (getR h (some this) 9 46).bind fun x77 =>
      (getR h (some this) 9 7).bind fun x78 =>
      (aldI h x78 11 ((48 * p0) + p1)).bind fun x79 =>
      (aldD h x77 x79).bind fun x80 =>
      f_X9_worth_272 x80 h
    else
      (getR h (some this) 9 46).bind fun x81 =>
      (aldD h x81 x4).bind fun x82 =>
      f_X9_worth_272 x82 h
  else if x6 = 11 then
    (getR h (some this) 9 46).bind fun x84 =>
    (aldD h x84 x2).bind fun x85 =>
    bnd (f_X9_power x85 x4 h) fun x86 h87 =>
    some (x86, h87)
  else if x6 = 12 then
    (getR h (some this) 9 46).bind fun x90 =>
    (aldD h x90 x2).bind fun x91 =>
    (ab_ck h (some this) (9, 0)).bind fun a95 =>
    bnd (f_X9_signalAt a95 x4 x91 h) fun x92 h93 =>
    some (x92, h93)
  else none
theorem mi_X9_worth : ab_MI yX9_worth cX9_worth 9 (some .double) 4 := ⟨lc_yX9_worth, lz_RX9, by decide, by decide, by decide +kernel⟩
set_option maxHeartbeats 4000000 in
set_option maxRecDepth 100000 in
theorem c_X9_worth (l : Launch) (D : va_G) (cA : Nat → ClassId) (sz : Nat) {this : Nat} {p0 : Int32} {p1 : Int32} {p2 : UInt64} {p3 : Option Nat} {h hh : Hp} {rr : UInt64} (hF : f_X9_worth this p0 p1 p2 p3 h = some (rr, hh)) : ab_C l D cA sz yX9_worth cX9_worth 9 (some .double) 3 0 0 [.ref this, .int p0, .int p1, .double p2, va_rf p3] h (some (.double rr)) hh := by
  refine Met.ofW (cc := cX9_worth) (maxL := 9) (ret := (some .double)) (by decide) rfl ?_
  intro p e s m args below meth c s₁ B hml hv
  obtain ⟨rfl, hT, hR⟩ := hv
  have X : ab_X p s m _ meth c cX9_worth 9 RX9 D cA sz := (ab_enter B hml hT hR).1
  have S := (ab_enter B hml hT hR).2
  have hr := B.returns
  obtain ⟨ls, hls, hl⟩ := ab_entry m [.ref this, .int p0, .int p1, .double p2, va_rf p3] 9 (lv := [(0, .ref this), (1, .int p0), (2, .int p1), (3, .double p2), (5, va_rf p3)]) (by simp [lg_sl, ab_cat, ab_cI, ab_cJ, ab_cD, ab_cF, ab_cA]) (by simp [lv_args, ab_cat, ab_cI, ab_cJ, ab_cD, ab_cF, ab_cA])
  rw [hls]
  have hl : lv_has ls 9 [(0, va_rf (some this)), (1, .int p0), (2, .int p1), (3, .double p2), (5, va_rf p3)] := hl
  unfold f_X9_worth at hF
  show W p l e (ab_rm 3 0 0) s m _ below meth c s.heap [] 0 0 _ _
  refine lv_bipush (v := 48) X.1 X.2.1 dX9_worth_0 (by decide) ?_
  refine lv_iload_n X.1 X.2.1 dX9_worth_2 rfl (lv_at hl 1 rfl) ?_
  refine lv_imul X.1 X.2.1 dX9_worth_3 ?_
  refine lv_iload_n X.1 X.2.1 dX9_worth_4 rfl (lv_at hl 2 rfl) ?_
  refine lv_iadd X.1 X.2.1 dX9_worth_5 ?_
  refine lv_istore (lv' := [(6, .int ((48 * p0) + p1)), (0, va_rf (some this)), (1, .int p0), (2, .int p1), (3, .double p2), (5, va_rf p3)]) X.1 X.2.1 dX9_worth_6 hl (by decide) (by simp [ab_cat, ab_cI, ab_cJ, ab_cD, ab_cF]) (fun ls hl => ?_)
  refine ab_aload_n X dX9_worth_8 rfl (lv_at hl 1 rfl) ?_
  refine ab_getR X S hF fi_9_5 lf_X9_27 dX9_worth_9 (fun x1 hF => ?_)
  refine lv_iload X.1 X.2.1 dX9_worth_12 (lv_at hl 0 rfl) ?_
  refine ab_aldI X S hF dX9_worth_14 (fun x2 hF => ?_)
  refine lv_istore (lv' := [(7, .int x2), (6, .int ((48 * p0) + p1)), (0, va_rf (some this)), (1, .int p0), (2, .int p1), (3, .double p2), (5, va_rf p3)]) X.1 X.2.1 dX9_worth_15 hl (by decide) (by simp [ab_cat, ab_cI, ab_cJ, ab_cD, ab_cF]) (fun ls hl => ?_)
  refine ab_aload_n X dX9_worth_17 rfl (lv_at hl 2 rfl) ?_
  refine ab_getR X S hF fi_9_6 lf_X9_30 dX9_worth_18 (fun x3 hF => ?_)
  refine lv_iload X.1 X.2.1 dX9_worth_21 (lv_at hl 1 rfl) ?_
  refine ab_aldI X S hF dX9_worth_23 (fun x4 hF => ?_)
  refine lv_istore (lv' := [(8, .int x4), (7, .int x2), (6, .int ((48 * p0) + p1)), (0, va_rf (some this)), (1, .int p0), (2, .int p1), (3, .double p2), (5, va_rf p3)]) X.1 X.2.1 dX9_worth_24 hl (by decide) (by simp [ab_cat, ab_cI, ab_cJ, ab_cD, ab_cF]) (fun ls hl => ?_)
  refine ab_aload_n X dX9_worth_26 rfl (lv_at hl 3 rfl) ?_
  refine ab_getR X S hF fi_9_4 lf_X9_24 dX9_worth_27 (fun x5 hF => ?_)
  refine lv_iload X.1 X.2.1 dX9_worth_30 (lv_at hl 2 rfl) ?_
  refine ab_aldI X S hF dX9_worth_32 (fun x6 hF => ?_)
  by_cases c7 : x6.toInt < 0 ∨ 12 < x6.toInt
  · have hF := ab_pos c7 hF
    refine lv_tableOut (tgt := 300) X.1 X.2.1 dX9_worth_33 c7 (by decide) ?_
    refine ab_aload_n X dX9_worth_300 rfl (lv_at hl 3 rfl) ?_
    refine ab_getR X S hF fi_9_8 lf_X9_36 dX9_worth_301 (fun x8 hF => ?_)
    refine lv_iload X.1 X.2.1 dX9_worth_304 (lv_at hl 2 rfl) ?_
    refine ab_aldD X S hF dX9_worth_306 (fun x9 hF => ?_)
    exact ab_dret X S hr hF dX9_worth_307
  have hF := ab_neg c7 hF
  by_cases c10 : x6 = 0
  · have hF := ab_pos c10 hF
    refine ab_tab (tgt := 100) X dX9_worth_33 c10 (by decide) (by decide) rfl (by decide) ?_
    refine ab_aload X dX9_worth_100 (lv_at hl 7 rfl) ?_
    refine lv_iload X.1 X.2.1 dX9_worth_102 (lv_at hl 1 rfl) ?_
    refine ab_aldD X S hF dX9_worth_104 (fun x11 hF => ?_)
    exact ab_dret X S hr hF dX9_worth_105
  have hF := ab_neg c10 hF
  by_cases c12 : x6 = 1
  · have hF := ab_pos c12 hF
    refine ab_tab (tgt := 106) X dX9_worth_33 c12 (by decide) (by decide) rfl (by decide) ?_
    refine lv_dload_n X.1 X.2.1 dX9_worth_106 rfl (lv_at hl 6 rfl) ?_
    exact ab_dret X S hr hF dX9_worth_107
  have hF := ab_neg c12 hF
  by_cases c13 : x6 = 2
  · have hF := ab_pos c13 hF
    refine ab_tab (tgt := 108) X dX9_worth_33 c13 (by decide) (by decide) rfl (by decide) ?_
    refine ab_aload_n X dX9_worth_108 rfl (lv_at hl 3 rfl) ?_
    refine ab_getR X S hF fi_9_46 lf_X9_143 dX9_worth_109 (fun x14 hF => ?_)
    refine lv_iload X.1 X.2.1 dX9_worth_112 (lv_at hl 1 rfl) ?_
    refine ab_aldD X S hF dX9_worth_114 (fun x15 hF => ?_)
    refine ab_aload_n X dX9_worth_115 rfl (lv_at hl 3 rfl) ?_
    refine ab_getR X S hF fi_9_46 lf_X9_143 dX9_worth_116 (fun x16 hF => ?_)
    refine lv_iload X.1 X.2.1 dX9_worth_119 (lv_at hl 0 rfl) ?_
    refine ab_aldD X S hF dX9_worth_121 (fun x17 hF => ?_)
    obtain ⟨x18, h19, e20, hF⟩ := bnd_out hF
    refine ab_callSd X S (c_X9_plus l D cA sz e20) mi_X9_plus lm_X9_214 lt_yX9_plus (As := [.double x15, .double x17]) (rest := []) rfl ⟨by decide, by decide⟩ ⟨(by decide), (by decide)⟩ hl.1 rfl (by simp [ab_cat, ab_cI, ab_cJ, ab_cD, ab_cF]) dX9_worth_122 (fun H1 locs1 S => ?_)
    exact ab_dret X S hr hF dX9_worth_125
  have hF := ab_neg c13 hF
  by_cases c21 : x6 = 3
  · have hF := ab_pos c21 hF
    refine ab_tab (tgt := 126) X dX9_worth_33 c21 (by decide) (by decide) rfl (by decide) ?_
    refine ab_aload_n X dX9_worth_126 rfl (lv_at hl 3 rfl) ?_
    refine ab_getR X S hF fi_9_46 lf_X9_143 dX9_worth_127 (fun x22 hF => ?_)
    refine lv_iload X.1 X.2.1 dX9_worth_130 (lv_at hl 1 rfl) ?_
    refine ab_aldD X S hF dX9_worth_132 (fun x23 hF => ?_)
    refine ab_aload_n X dX9_worth_133 rfl (lv_at hl 3 rfl) ?_
    refine ab_getR X S hF fi_9_46 lf_X9_143 dX9_worth_134 (fun x24 hF => ?_)
    refine lv_iload X.1 X.2.1 dX9_worth_137 (lv_at hl 0 rfl) ?_
    refine ab_aldD X S hF dX9_worth_139 (fun x25 hF => ?_)
    obtain ⟨x26, h27, e28, hF⟩ := bnd_out hF
    refine ab_callSd X S (c_X9_less l D cA sz e28) mi_X9_less lm_X9_204 lt_yX9_less (As := [.double x23, .double x25]) (rest := []) rfl ⟨by decide, by decide⟩ ⟨(by decide), (by decide)⟩ hl.1 rfl (by simp [ab_cat, ab_cI, ab_cJ, ab_cD, ab_cF]) dX9_worth_140 (fun H1 locs1 S => ?_)
    exact ab_dret X S hr hF dX9_worth_143
  have hF := ab_neg c21 hF
  by_cases c29 : x6 = 4
  · have hF := ab_pos c29 hF
    refine ab_tab (tgt := 144) X dX9_worth_33 c29 (by decide) (by decide) rfl (by decide) ?_
    refine ab_aload_n X dX9_worth_144 rfl (lv_at hl 3 rfl) ?_
    refine ab_getR X S hF fi_9_46 lf_X9_143 dX9_worth_145 (fun x30 hF => ?_)
    refine lv_iload X.1 X.2.1 dX9_worth_148 (lv_at hl 1 rfl) ?_
    refine ab_aldD X S hF dX9_worth_150 (fun x31 hF => ?_)
    refine ab_aload_n X dX9_worth_151 rfl (lv_at hl 3 rfl) ?_
    refine ab_getR X S hF fi_9_46 lf_X9_143 dX9_worth_152 (fun x32 hF => ?_)
    refine lv_iload X.1 X.2.1 dX9_worth_155 (lv_at hl 0 rfl) ?_
    refine ab_aldD X S hF dX9_worth_157 (fun x33 hF => ?_)
    obtain ⟨x34, h35, e36, hF⟩ := bnd_out hF
    refine ab_callSd X S (c_X9_times l D cA sz e36) mi_X9_times lm_X9_211 lt_yX9_times (As := [.double x31, .double x33]) (rest := []) rfl ⟨by decide, by decide⟩ ⟨(by decide), (by decide)⟩ hl.1 rfl (by simp [ab_cat, ab_cI, ab_cJ, ab_cD, ab_cF]) dX9_worth_158 (fun H1 locs1 S => ?_)
    exact ab_dret X S hr hF dX9_worth_161
  have hF := ab_neg c29 hF
  by_cases c37 : x6 = 5
  · have hF := ab_pos c37 hF
    refine ab_tab (tgt := 162) X dX9_worth_33 c37 (by decide) (by decide) rfl (by decide) ?_
    refine ab_aload_n X dX9_worth_162 rfl (lv_at hl 3 rfl) ?_
    refine ab_getR X S hF fi_9_46 lf_X9_143 dX9_worth_163 (fun x38 hF => ?_)
    refine lv_iload X.1 X.2.1 dX9_worth_166 (lv_at hl 1 rfl) ?_
    refine ab_aldD X S hF dX9_worth_168 (fun x39 hF => ?_)
    refine ab_aload_n X dX9_worth_169 rfl (lv_at hl 3 rfl) ?_
    refine ab_getR X S hF fi_9_46 lf_X9_143 dX9_worth_170 (fun x40 hF => ?_)
    refine lv_iload X.1 X.2.1 dX9_worth_173 (lv_at hl 0 rfl) ?_
    refine ab_aldD X S hF dX9_worth_175 (fun x41 hF => ?_)
    obtain ⟨x42, h43, e44, hF⟩ := bnd_out hF
    refine ab_callSd X S (c_X9_by l D cA sz e44) mi_X9_by lm_X9_208 lt_yX9_by (As := [.double x39, .double x41]) (rest := []) rfl ⟨by decide, by decide⟩ ⟨(by decide), (by decide)⟩ hl.1 rfl (by simp [ab_cat, ab_cI, ab_cJ, ab_cD, ab_cF]) dX9_worth_176 (fun H1 locs1 S => ?_)
    exact ab_dret X S hr hF dX9_worth_179
  have hF := ab_neg c37 hF
  by_cases c45 : x6 = 6
  · have hF := ab_pos c45 hF
    refine ab_tab (tgt := 180) X dX9_worth_33 c45 (by decide) (by decide) rfl (by decide) ?_
    refine ab_aload_n X dX9_worth_180 rfl (lv_at hl 3 rfl) ?_
    refine ab_getR X S hF fi_9_46 lf_X9_143 dX9_worth_181 (fun x46 hF => ?_)
    refine lv_iload X.1 X.2.1 dX9_worth_184 (lv_at hl 1 rfl) ?_
    refine ab_aldD X S hF dX9_worth_186 (fun x47 hF => ?_)
    obtain ⟨x48, h49, e50, hF⟩ := bnd_out hF
    refine ab_callSd X S (c_X9_turned l D cA sz e50) mi_X9_turned lm_X9_217 lt_yX9_turned (As := [.double x47]) (rest := []) rfl ⟨by decide, by decide⟩ ⟨(by decide), (by decide)⟩ hl.1 rfl (by simp [ab_cat, ab_cI, ab_cJ, ab_cD, ab_cF]) dX9_worth_187 (fun H1 locs1 S => ?_)
    exact ab_dret X S hr hF dX9_worth_190
  have hF := ab_neg c45 hF
  by_cases c51 : x6 = 7
  · have hF := ab_pos c51 hF
    refine ab_tab (tgt := 191) X dX9_worth_33 c51 (by decide) (by decide) rfl (by decide) ?_
    refine ab_aload_n X dX9_worth_191 rfl (lv_at hl 3 rfl) ?_
    refine ab_getR X S hF fi_9_46 lf_X9_143 dX9_worth_192 (fun x52 hF => ?_)
    refine lv_iload X.1 X.2.1 dX9_worth_195 (lv_at hl 1 rfl) ?_
    refine ab_aldD X S hF dX9_worth_197 (fun x53 hF => ?_)
    obtain ⟨x54, h55, e56, hF⟩ := bnd_out hF
    refine ab_callSd X S (c_X9_size l D cA sz e56) mi_X9_size lm_X9_221 lt_yX9_size (As := [.double x53]) (rest := []) rfl ⟨by decide, by decide⟩ ⟨(by decide), (by decide)⟩ hl.1 rfl (by simp [ab_cat, ab_cI, ab_cJ, ab_cD, ab_cF]) dX9_worth_198 (fun H1 locs1 S => ?_)
    exact ab_dret X S hr hF dX9_worth_201
  have hF := ab_neg c51 hF
  by_cases c57 : x6 = 8
  · have hF := ab_pos c57 hF
    refine ab_tab (tgt := 202) X dX9_worth_33 c57 (by decide) (by decide) rfl (by decide) ?_
    refine ab_aload_n X dX9_worth_202 rfl (lv_at hl 3 rfl) ?_
    refine ab_getR X S hF fi_9_46 lf_X9_143 dX9_worth_203 (fun x58 hF => ?_)
    refine lv_iload X.1 X.2.1 dX9_worth_206 (lv_at hl 1 rfl) ?_
    refine ab_aldD X S hF dX9_worth_208 (fun x59 hF => ?_)
    refine ab_aload_n X dX9_worth_209 rfl (lv_at hl 3 rfl) ?_
    refine ab_getR X S hF fi_9_46 lf_X9_143 dX9_worth_210 (fun x60 hF => ?_)
    refine lv_iload X.1 X.2.1 dX9_worth_213 (lv_at hl 0 rfl) ?_
    refine ab_aldD X S hF dX9_worth_215 (fun x61 hF => ?_)
    obtain ⟨x62, h63, e64, hF⟩ := bnd_out hF
    refine ab_callSd X S (c_X9_least l D cA sz e64) mi_X9_least lm_X9_224 lt_yX9_least (As := [.double x59, .double x61]) (rest := []) rfl ⟨by decide, by decide⟩ ⟨(by decide), (by decide)⟩ hl.1 rfl (by simp [ab_cat, ab_cI, ab_cJ, ab_cD, ab_cF]) dX9_worth_216 (fun H1 locs1 S => ?_)
    exact ab_dret X S hr hF dX9_worth_219
  have hF := ab_neg c57 hF
  by_cases c65 : x6 = 9
  · have hF := ab_pos c65 hF
    refine ab_tab (tgt := 220) X dX9_worth_33 c65 (by decide) (by decide) rfl (by decide) ?_
    refine ab_aload_n X dX9_worth_220 rfl (lv_at hl 3 rfl) ?_
    refine ab_getR X S hF fi_9_46 lf_X9_143 dX9_worth_221 (fun x66 hF => ?_)
    refine lv_iload X.1 X.2.1 dX9_worth_224 (lv_at hl 1 rfl) ?_
    refine ab_aldD X S hF dX9_worth_226 (fun x67 hF => ?_)
    refine ab_aload_n X dX9_worth_227 rfl (lv_at hl 3 rfl) ?_
    refine ab_getR X S hF fi_9_46 lf_X9_143 dX9_worth_228 (fun x68 hF => ?_)
    refine lv_iload X.1 X.2.1 dX9_worth_231 (lv_at hl 0 rfl) ?_
    refine ab_aldD X S hF dX9_worth_233 (fun x69 hF => ?_)
    obtain ⟨x70, h71, e72, hF⟩ := bnd_out hF
    refine ab_callSd X S (c_X9_greatest l D cA sz e72) mi_X9_greatest lm_X9_227 lt_yX9_greatest (As := [.double x67, .double x69]) (rest := []) rfl ⟨by decide, by decide⟩ ⟨(by decide), (by decide)⟩ hl.1 rfl (by simp [ab_cat, ab_cI, ab_cJ, ab_cD, ab_cF]) dX9_worth_234 (fun H1 locs1 S => ?_)
    exact ab_dret X S hr hF dX9_worth_237
  have hF := ab_neg c65 hF
  by_cases c73 : x6 = 10
  · have hF := ab_pos c73 hF
    refine ab_tab (tgt := 238) X dX9_worth_33 c73 (by decide) (by decide) rfl (by decide) ?_
    refine ab_aload_n X dX9_worth_238 rfl (lv_at hl 3 rfl) ?_
    refine ab_getR X S hF fi_9_46 lf_X9_143 dX9_worth_239 (fun x74 hF => ?_)
    refine lv_iload X.1 X.2.1 dX9_worth_242 (lv_at hl 1 rfl) ?_
    refine ab_aldD X S hF dX9_worth_244 (fun x75 hF => ?_)
    refine lv_dconst0 X.1 X.2.1 dX9_worth_245 ?_
    refine lv_dcmp X.1 X.2.1 dX9_worth_246 ?_
    refine lv_if_ge (tgt := 260) X.1 X.2.1 dX9_worth_247 (by decide) (fun c76 => ?_) (fun c76 => ?_)
    · have hF := ab_pos c76 hF
      refine ab_aload_n X dX9_worth_260 rfl (lv_at hl 3 rfl) ?_
      refine ab_getR X S hF fi_9_46 lf_X9_143 dX9_worth_261 (fun x77 hF => ?_)
      refine ab_aload_n X dX9_worth_264 rfl (lv_at hl 3 rfl) ?_
      refine ab_getR X S hF fi_9_7 lf_X9_33 dX9_worth_265 (fun x78 hF => ?_)
      refine lv_iload X.1 X.2.1 dX9_worth_268 (lv_at hl 2 rfl) ?_
      refine ab_aldI X S hF dX9_worth_270 (fun x79 hF => ?_)
      refine ab_aldD X S hF dX9_worth_271 (fun x80 hF => ?_)
      exact w_X9_worth_272 X hr  S (lv_sub hl [] rfl) hF
    · have hF := ab_neg c76 hF
      refine ab_aload_n X dX9_worth_250 rfl (lv_at hl 3 rfl) ?_
      refine ab_getR X S hF fi_9_46 lf_X9_143 dX9_worth_251 (fun x81 hF => ?_)
      refine lv_iload X.1 X.2.1 dX9_worth_254 (lv_at hl 0 rfl) ?_
      refine ab_aldD X S hF dX9_worth_256 (fun x82 hF => ?_)
      refine lv_goto (tgt := 272) X.1 X.2.1 dX9_worth_257 (by decide) ?_
      exact w_X9_worth_272 X hr  S (lv_sub hl [] rfl) hF
  have hF := ab_neg c73 hF
  by_cases c83 : x6 = 11
  · have hF := ab_pos c83 hF
    refine ab_tab (tgt := 273) X dX9_worth_33 c83 (by decide) (by decide) rfl (by decide) ?_
    refine ab_aload_n X dX9_worth_273 rfl (lv_at hl 3 rfl) ?_
    refine ab_getR X S hF fi_9_46 lf_X9_143 dX9_worth_274 (fun x84 hF => ?_)
    refine lv_iload X.1 X.2.1 dX9_worth_277 (lv_at hl 1 rfl) ?_
    refine ab_aldD X S hF dX9_worth_279 (fun x85 hF => ?_)
    refine lv_iload X.1 X.2.1 dX9_worth_280 (lv_at hl 0 rfl) ?_
    obtain ⟨x86, h87, e88, hF⟩ := bnd_out hF
    refine ab_callSd X S (c_X9_power l D cA sz e88) mi_X9_power lm_X9_230 lt_yX9_power (As := [.double x85, .int x4]) (rest := []) rfl ⟨by decide, by decide⟩ ⟨(by decide), (by decide)⟩ hl.1 rfl (by simp [ab_cat, ab_cI, ab_cJ, ab_cD, ab_cF]) dX9_worth_282 (fun H1 locs1 S => ?_)
    exact ab_dret X S hr hF dX9_worth_285
  have hF := ab_neg c83 hF
  by_cases c89 : x6 = 12
  · have hF := ab_pos c89 hF
    refine ab_tab (tgt := 286) X dX9_worth_33 c89 (by decide) (by decide) rfl (by decide) ?_
    refine ab_aload_n X dX9_worth_286 rfl (lv_at hl 3 rfl) ?_
    refine lv_iload X.1 X.2.1 dX9_worth_287 (lv_at hl 0 rfl) ?_
    refine ab_aload_n X dX9_worth_289 rfl (lv_at hl 3 rfl) ?_
    refine ab_getR X S hF fi_9_46 lf_X9_143 dX9_worth_290 (fun x90 hF => ?_)
    refine lv_iload X.1 X.2.1 dX9_worth_293 (lv_at hl 1 rfl) ?_
    refine ab_aldD X S hF dX9_worth_295 (fun x91 hF => ?_)
    obtain ⟨a95, e96, hF⟩ := bind_out hF
    obtain ⟨x92, h93, e94, hF⟩ := bnd_out hF
    refine ab_callVd X S e96 (c_X9_signalAt l D cA sz e94) rfl (by decide) mi_X9_signalAt lm_X9_234 li_yX9_signalAt ls_yX9_signalAt (As := [.int x4, .double x91]) (rest := []) rfl ⟨by decide, by decide⟩ ⟨(by decide), (by decide)⟩ hl.1 rfl (by simp [ab_cat, ab_cI, ab_cJ, ab_cD, ab_cF]) dX9_worth_296 (fun H1 locs1 S => ?_)
    exact ab_dret X S hr hF dX9_worth_299
  have hF := ab_neg c89 hF
  cases hF
def f_X9_all_3  : Nat → Option Nat → Int32 → UInt64 → Option Nat → Int32 → Hp → Option (Unit × Hp)
  | 0, _, _, _, _, _, _ => none
  | n + 1, v0, v1, v2, v4, v5, h => (getR h v0 9 2).bind fun x1 =>
    (aldI h x1 11 v1).bind fun x2 =>
    if x2 ≤ v5 then
      some ((), h)
    else
      (getR h v0 9 46).bind fun x4 =>
      (ab_ck h v0 (9, 0)).bind fun a8 =>
      bnd (f_X9_worth a8 v1 v5 v2 v4 h) fun x5 h6 =>
      (astD h6 x4 v5 x5).bind fun h10 =>
      f_X9_all_3 n v0 v1 v2 v4 (v5 + 1) h10
set_option maxHeartbeats 4000000 in
set_option maxRecDepth 100000 in
theorem w_X9_all_3 {p : Program} {l : Launch} {e : Env} {s : State} {m : MethodId} {args : Array Value} {below : List Frame} {meth : Method} {c : Code} {D : va_G} {cA : Nat → ClassId} {sz : Nat}  {hh : Hp}  (X : ab_X p s m args meth c cX9_all 6 RX9 D cA sz) (hr : meth.sig.returnType = none)  (n : Nat) : ∀ (v0 : Option Nat) (v1 : Int32) (v2 : UInt64) (v4 : Option Nat) (v5 : Int32) (h : Hp) (H : Heap) (locs : List Loc) (ls : Array Slot), ab_H D cA sz h s H locs → lv_has ls 6 [(0, va_rf v0), (1, .int v1), (2, .double v2), (4, va_rf v4), (5, .int v5)] → f_X9_all_3 n v0 v1 v2 v4 v5 h = some ((), hh) → W p l e (ab_rm 4 0 0) s m args below meth c H locs 0 0 (MQ below (ab_Q D cA sz none hh) args s 0 0 (fun q => sz ≤ q)) (F0 m 3 ls []) := by
  induction n with
  | zero => intro v0 v1 v2 v4 v5 h H locs ls S hl hF; cases hF
  | succ n ih =>
    intro v0 v1 v2 v4 v5 h H locs ls S hl hF
    rw [f_X9_all_3] at hF
    refine lv_iload X.1 X.2.1 dX9_all_3 (lv_at hl 4 rfl) ?_
    refine ab_aload_n X dX9_all_5 rfl (lv_at hl 0 rfl) ?_
    refine ab_getR X S hF fi_9_2 lf_X9_18 dX9_all_6 (fun x1 hF => ?_)
    refine lv_iload_n X.1 X.2.1 dX9_all_9 rfl (lv_at hl 1 rfl) ?_
    refine ab_aldI X S hF dX9_all_10 (fun x2 hF => ?_)
    refine lv_icmp_ge (tgt := 37) X.1 X.2.1 dX9_all_11 (by decide) (fun c3 => ?_) (fun c3 => ?_)
    · have hF := ab_pos c3 hF
      exact ab_vret X S hr hF dX9_all_37
    · have hF := ab_neg c3 hF
      refine ab_aload_n X dX9_all_14 rfl (lv_at hl 0 rfl) ?_
      refine ab_getR X S hF fi_9_46 lf_X9_143 dX9_all_15 (fun x4 hF => ?_)
      refine lv_iload X.1 X.2.1 dX9_all_18 (lv_at hl 4 rfl) ?_
      refine ab_aload_n X dX9_all_20 rfl (lv_at hl 0 rfl) ?_
      refine lv_iload_n X.1 X.2.1 dX9_all_21 rfl (lv_at hl 1 rfl) ?_
      refine lv_iload X.1 X.2.1 dX9_all_22 (lv_at hl 4 rfl) ?_
      refine lv_dload_n X.1 X.2.1 dX9_all_24 rfl (lv_at hl 2 rfl) ?_
      refine ab_aload X dX9_all_25 (lv_at hl 3 rfl) ?_
      obtain ⟨a8, e9, hF⟩ := bind_out hF
      obtain ⟨x5, h6, e7, hF⟩ := bnd_out hF
      refine ab_callVd X S e9 (c_X9_worth l D cA sz e7) rfl (by decide) mi_X9_worth lm_X9_238 li_yX9_worth ls_yX9_worth (As := [.int v1, .int v5, .double v2, va_rf v4]) (rest := [.int v5, va_rf x4]) rfl ⟨by decide, by decide⟩ ⟨(by decide), (by decide)⟩ hl.1 rfl (by simp [ab_cat, ab_cI, ab_cJ, ab_cD, ab_cF]) dX9_all_27 (fun H1 locs1 S => ?_)
      refine ab_astD X S hF dX9_all_30 (fun h10 H1 locs1 hF S => ?_)
      refine lv_iinc (v := v5 + 1) (lv' := [(5, .int (v5 + 1)), (0, va_rf v0), (1, .int v1), (2, .double v2), (4, va_rf v4)]) X.1 X.2.1 dX9_all_31 hl (k := 4) rfl (by rfl) (by decide) (by simp [ab_cat, ab_cI, ab_cJ, ab_cD, ab_cF]) (fun ls hl => ?_)
      refine lv_goto (tgt := 3) X.1 X.2.1 dX9_all_34 (by decide) ?_
      exact ih _ _ _ _ _ _ _ _ _ S (lv_sub hl [1, 2, 3, 4, 0] rfl) hF
def f_X9_all (this : Nat) (p0 : Int32) (p1 : UInt64) (p2 : Option Nat) (h : Hp) : Option (Unit × Hp) :=
  f_X9_all_3 fuelN (some this) p0 p1 p2 0 h
theorem mi_X9_all : ab_MI yX9_all cX9_all 6 none 3 := ⟨lc_yX9_all, lz_RX9, by decide, by decide, by decide +kernel⟩
set_option maxHeartbeats 4000000 in
set_option maxRecDepth 100000 in
theorem c_X9_all (l : Launch) (D : va_G) (cA : Nat → ClassId) (sz : Nat) {this : Nat} {p0 : Int32} {p1 : UInt64} {p2 : Option Nat} {h hh : Hp}  (hF : f_X9_all this p0 p1 p2 h = some ((), hh)) : ab_C l D cA sz yX9_all cX9_all 6 none 4 0 0 [.ref this, .int p0, .double p1, va_rf p2] h none hh := by
  refine Met.ofW (cc := cX9_all) (maxL := 6) (ret := none) (by decide) rfl ?_
  intro p e s m args below meth c s₁ B hml hv
  obtain ⟨rfl, hT, hR⟩ := hv
  have X : ab_X p s m _ meth c cX9_all 6 RX9 D cA sz := (ab_enter B hml hT hR).1
  have S := (ab_enter B hml hT hR).2
  have hr := B.returns
  obtain ⟨ls, hls, hl⟩ := ab_entry m [.ref this, .int p0, .double p1, va_rf p2] 6 (lv := [(0, .ref this), (1, .int p0), (2, .double p1), (4, va_rf p2)]) (by simp [lg_sl, ab_cat, ab_cI, ab_cJ, ab_cD, ab_cF, ab_cA]) (by simp [lv_args, ab_cat, ab_cI, ab_cJ, ab_cD, ab_cF, ab_cA])
  rw [hls]
  have hl : lv_has ls 6 [(0, va_rf (some this)), (1, .int p0), (2, .double p1), (4, va_rf p2)] := hl
  unfold f_X9_all at hF
  show W p l e (ab_rm 4 0 0) s m _ below meth c s.heap [] 0 0 _ _
  refine lv_iconst (v := 0) X.1 X.2.1 dX9_all_0 (by decide) ?_
  refine lv_istore (lv' := [(5, .int 0), (0, va_rf (some this)), (1, .int p0), (2, .double p1), (4, va_rf p2)]) X.1 X.2.1 dX9_all_1 hl (by decide) (by simp [ab_cat, ab_cI, ab_cJ, ab_cD, ab_cF]) (fun ls hl => ?_)
  exact w_X9_all_3 X hr  fuelN _ _ _ _ _ _ _ _ _ S (lv_sub hl [1, 2, 3, 4, 0] rfl) hF
def f_X9_rates_68 (k_11 : Option Nat → Int32 → Option Nat → Int32 → Hp → Option (Unit × Hp)) (v0 : Option Nat) (v1 : Int32) (v5 : Option Nat) (v6 : Int32) (u0 : Int32) (u1 : Option Nat) (h : Hp) : Option (Unit × Hp) :=
  (putZ h u1 9 60 u0).bind fun h1 =>
  k_11 v0 v1 v5 (v6 + 1) h1
set_option maxHeartbeats 4000000 in
set_option maxRecDepth 100000 in
theorem w_X9_rates_68 {p : Program} {l : Launch} {e : Env} {s : State} {m : MethodId} {args : Array Value} {below : List Frame} {meth : Method} {c : Code} {D : va_G} {cA : Nat → ClassId} {sz : Nat}  {hh : Hp} {k_11 : Option Nat → Int32 → Option Nat → Int32 → Hp → Option (Unit × Hp)} (X : ab_X p s m args meth c cX9_rates 7 RX9 D cA sz) (hr : meth.sig.returnType = none) (hk_11 : ∀ (v0 : Option Nat) (v1 : Int32) (v5 : Option Nat) (v6 : Int32) (h : Hp) (H : Heap) (locs : List Loc) (ls : Array Slot), ab_H D cA sz h s H locs → lv_has ls 7 [(0, va_rf v0), (1, .int v1), (5, va_rf v5), (6, .int v6)] → k_11 v0 v1 v5 v6 h = some ((), hh) → W p l e (ab_rm 5 0 0) s m args below meth c H locs 0 0 (MQ below (ab_Q D cA sz none hh) args s 0 0 (fun q => sz ≤ q)) (F0 m 11 ls [])) {H : Heap} {locs : List Loc} {ls : Array Slot} {v0 : Option Nat} {v1 : Int32} {v5 : Option Nat} {v6 : Int32} {u0 : Int32} {u1 : Option Nat} {h : Hp} (S : ab_H D cA sz h s H locs) (hl : lv_has ls 7 [(0, va_rf v0), (1, .int v1), (5, va_rf v5), (6, .int v6)]) (hF : f_X9_rates_68 k_11 v0 v1 v5 v6 u0 u1 h = some ((), hh)) : W p l e (ab_rm 5 0 0) s m args below meth c H locs 0 0 (MQ below (ab_Q D cA sz none hh) args s 0 0 (fun q => sz ≤ q)) (F0 m 68 ls [.int u0, va_rf u1]) := by
  unfold f_X9_rates_68 at hF
  refine ab_putZ X S hF fi_9_60 ci_9 (Or.inl rfl) rfl lf_X9_246 dX9_rates_68 (fun h1 H1 locs1 hF S => ?_)
  refine lv_iinc (v := v6 + 1) (lv' := [(6, .int (v6 + 1)), (0, va_rf v0), (1, .int v1), (5, va_rf v5)]) X.1 X.2.1 dX9_rates_71 hl (k := 3) rfl (by rfl) (by decide) (by simp [ab_cat, ab_cI, ab_cJ, ab_cD, ab_cF]) (fun ls hl => ?_)
  refine lv_goto (tgt := 11) X.1 X.2.1 dX9_rates_74 (by decide) ?_
  exact hk_11 _ _ _ _ _ _ _ _ S (lv_sub hl [1, 2, 3, 0] rfl) hF
def f_X9_rates_63 (k_11 : Option Nat → Int32 → Option Nat → Int32 → Hp → Option (Unit × Hp)) (v0 : Option Nat) (v1 : Int32) (v5 : Option Nat) (v6 : Int32) (u0 : Option Nat) (h : Hp) : Option (Unit × Hp) :=
  f_X9_rates_68 k_11 v0 v1 v5 v6 1 u0 h
set_option maxHeartbeats 4000000 in
set_option maxRecDepth 100000 in
theorem w_X9_rates_63 {p : Program} {l : Launch} {e : Env} {s : State} {m : MethodId} {args : Array Value} {below : List Frame} {meth : Method} {c : Code} {D : va_G} {cA : Nat → ClassId} {sz : Nat}  {hh : Hp} {k_11 : Option Nat → Int32 → Option Nat → Int32 → Hp → Option (Unit × Hp)} (X : ab_X p s m args meth c cX9_rates 7 RX9 D cA sz) (hr : meth.sig.returnType = none) (hk_11 : ∀ (v0 : Option Nat) (v1 : Int32) (v5 : Option Nat) (v6 : Int32) (h : Hp) (H : Heap) (locs : List Loc) (ls : Array Slot), ab_H D cA sz h s H locs → lv_has ls 7 [(0, va_rf v0), (1, .int v1), (5, va_rf v5), (6, .int v6)] → k_11 v0 v1 v5 v6 h = some ((), hh) → W p l e (ab_rm 5 0 0) s m args below meth c H locs 0 0 (MQ below (ab_Q D cA sz none hh) args s 0 0 (fun q => sz ≤ q)) (F0 m 11 ls [])) {H : Heap} {locs : List Loc} {ls : Array Slot} {v0 : Option Nat} {v1 : Int32} {v5 : Option Nat} {v6 : Int32} {u0 : Option Nat} {h : Hp} (S : ab_H D cA sz h s H locs) (hl : lv_has ls 7 [(0, va_rf v0), (1, .int v1), (5, va_rf v5), (6, .int v6)]) (hF : f_X9_rates_63 k_11 v0 v1 v5 v6 u0 h = some ((), hh)) : W p l e (ab_rm 5 0 0) s m args below meth c H locs 0 0 (MQ below (ab_Q D cA sz none hh) args s 0 0 (fun q => sz ≤ q)) (F0 m 63 ls [va_rf u0]) := by
  unfold f_X9_rates_63 at hF
  refine lv_iconst (v := 1) X.1 X.2.1 dX9_rates_63 (by decide) ?_
  refine lv_goto (tgt := 68) X.1 X.2.1 dX9_rates_64 (by decide) ?_
  exact w_X9_rates_68 X hr hk_11 S (lv_sub hl [0, 1, 2, 3] rfl) hF
def f_X9_rates_11  : Nat → Option Nat → Int32 → Option Nat → Int32 → Hp → Option (Unit × Hp)
  | 0, _, _, _, _, _ => none
  | n + 1, v0, v1, v5, v6, h => (getR h v0 9 0).bind fun x1 =>
    (aldI h x1 11 v1).bind fun x2 =>
    if x2 ≤ v6 then
      some ((), h)
    else
      (getR h v0 9 46).bind fun x4 =>
      (getR h v0 9 3).bind fun x5 =>
      (aldI h x5 11 ((6 * v1) + v6)).bind fun x6 =>
      (aldD h x4 x6).bind fun x7 =>
      (astD h v5 v6 x7).bind fun h8 =>
      (getI h8 v0 9 60).bind fun x9 =>
      if ¬ x9 = 0 then
        f_X9_rates_63 (f_X9_rates_11 n) v0 v1 v5 v6 v0 h8
      else
        (aldD h8 v5 v6).bind fun x11 =>
        bnd (f_X9_isFinite x11 h8) fun x12 h13 =>
        if ¬ x12 = 0 then
          f_X9_rates_68 (f_X9_rates_11 n) v0 v1 v5 v6 0 v0 h13
        else
          f_X9_rates_63 (f_X9_rates_11 n) v0 v1 v5 v6 v0 h13
set_option maxHeartbeats 4000000 in
set_option maxRecDepth 100000 in
theorem w_X9_rates_11 {p : Program} {l : Launch} {e : Env} {s : State} {m : MethodId} {args : Array Value} {below : List Frame} {meth : Method} {c : Code} {D : va_G} {cA : Nat → ClassId} {sz : Nat}  {hh : Hp}  (X : ab_X p s m args meth c cX9_rates 7 RX9 D cA sz) (hr : meth.sig.returnType = none)  (n : Nat) : ∀ (v0 : Option Nat) (v1 : Int32) (v5 : Option Nat) (v6 : Int32) (h : Hp) (H : Heap) (locs : List Loc) (ls : Array Slot), ab_H D cA sz h s H locs → lv_has ls 7 [(0, va_rf v0), (1, .int v1), (5, va_rf v5), (6, .int v6)] → f_X9_rates_11 n v0 v1 v5 v6 h = some ((), hh) → W p l e (ab_rm 5 0 0) s m args below meth c H locs 0 0 (MQ below (ab_Q D cA sz none hh) args s 0 0 (fun q => sz ≤ q)) (F0 m 11 ls []) := by
  induction n with
  | zero => intro v0 v1 v5 v6 h H locs ls S hl hF; cases hF
  | succ n ih =>
    intro v0 v1 v5 v6 h H locs ls S hl hF
    rw [f_X9_rates_11] at hF
    refine lv_iload X.1 X.2.1 dX9_rates_11 (lv_at hl 3 rfl) ?_
    refine ab_aload_n X dX9_rates_13 rfl (lv_at hl 0 rfl) ?_
    refine ab_getR X S hF fi_9_0 lf_X9_9 dX9_rates_14 (fun x1 hF => ?_)
    refine lv_iload_n X.1 X.2.1 dX9_rates_17 rfl (lv_at hl 1 rfl) ?_
    refine ab_aldI X S hF dX9_rates_18 (fun x2 hF => ?_)
    refine lv_icmp_ge (tgt := 77) X.1 X.2.1 dX9_rates_19 (by decide) (fun c3 => ?_) (fun c3 => ?_)
    · have hF := ab_pos c3 hF
      exact ab_vret X S hr hF dX9_rates_77
    · have hF := ab_neg c3 hF
      refine ab_aload X dX9_rates_22 (lv_at hl 2 rfl) ?_
      refine lv_iload X.1 X.2.1 dX9_rates_24 (lv_at hl 3 rfl) ?_
      refine ab_aload_n X dX9_rates_26 rfl (lv_at hl 0 rfl) ?_
      refine ab_getR X S hF fi_9_46 lf_X9_143 dX9_rates_27 (fun x4 hF => ?_)
      refine ab_aload_n X dX9_rates_30 rfl (lv_at hl 0 rfl) ?_
      refine ab_getR X S hF fi_9_3 lf_X9_21 dX9_rates_31 (fun x5 hF => ?_)
      refine lv_bipush (v := 6) X.1 X.2.1 dX9_rates_34 (by decide) ?_
      refine lv_iload_n X.1 X.2.1 dX9_rates_36 rfl (lv_at hl 1 rfl) ?_
      refine lv_imul X.1 X.2.1 dX9_rates_37 ?_
      refine lv_iload X.1 X.2.1 dX9_rates_38 (lv_at hl 3 rfl) ?_
      refine lv_iadd X.1 X.2.1 dX9_rates_40 ?_
      refine ab_aldI X S hF dX9_rates_41 (fun x6 hF => ?_)
      refine ab_aldD X S hF dX9_rates_42 (fun x7 hF => ?_)
      refine ab_astD X S hF dX9_rates_43 (fun h8 H1 locs1 hF S => ?_)
      refine ab_aload_n X dX9_rates_44 rfl (lv_at hl 0 rfl) ?_
      refine ab_aload_n X dX9_rates_45 rfl (lv_at hl 0 rfl) ?_
      refine ab_getI X S hF fi_9_60 lf_X9_246 dX9_rates_46 (fun x9 hF => ?_)
      refine lv_if_ne (tgt := 63) X.1 X.2.1 dX9_rates_49 (by decide) (fun c10 => ?_) (fun c10 => ?_)
      · have hF := ab_pos c10 hF
        exact w_X9_rates_63 X hr ih S (lv_sub hl [0, 1, 2, 3] rfl) hF
      · have hF := ab_neg (fun q => q c10) hF
        refine ab_aload X dX9_rates_52 (lv_at hl 2 rfl) ?_
        refine lv_iload X.1 X.2.1 dX9_rates_54 (lv_at hl 3 rfl) ?_
        refine ab_aldD X S hF dX9_rates_56 (fun x11 hF => ?_)
        obtain ⟨x12, h13, e14, hF⟩ := bnd_out hF
        refine ab_callSi X S (c_X9_isFinite l D cA sz e14) mi_X9_isFinite lm_X9_193 lt_yX9_isFinite (As := [.double x11]) (rest := [va_rf v0]) rfl ⟨by decide, by decide⟩ ⟨(by decide), (by decide)⟩ hl.1 rfl (by simp [ab_cat, ab_cI, ab_cJ, ab_cD, ab_cF]) dX9_rates_57 (fun H1 locs1 S => ?_)
        refine lv_if_ne (tgt := 67) X.1 X.2.1 dX9_rates_60 (by decide) (fun c15 => ?_) (fun c15 => ?_)
        · have hF := ab_pos c15 hF
          refine lv_iconst (v := 0) X.1 X.2.1 dX9_rates_67 (by decide) ?_
          exact w_X9_rates_68 X hr ih S (lv_sub hl [0, 1, 2, 3] rfl) hF
        · have hF := ab_neg (fun q => q c15) hF
          exact w_X9_rates_63 X hr ih S (lv_sub hl [0, 1, 2, 3] rfl) hF
def f_X9_rates (this : Nat) (p0 : Int32) (p1 : UInt64) (p2 : Option Nat) (p3 : Option Nat) (h : Hp) : Option (Unit × Hp) :=
  (ab_ck h (some this) (9, 0)).bind fun a4 =>
  bnd (f_X9_all a4 p0 p1 p2 h) fun _ h2 =>
  f_X9_rates_11 fuelN (some this) p0 p3 0 h2
theorem mi_X9_rates : ab_MI yX9_rates cX9_rates 7 none 4 := ⟨lc_yX9_rates, lz_RX9, by decide, by decide, by decide +kernel⟩
set_option maxHeartbeats 4000000 in
set_option maxRecDepth 100000 in
theorem c_X9_rates (l : Launch) (D : va_G) (cA : Nat → ClassId) (sz : Nat) {this : Nat} {p0 : Int32} {p1 : UInt64} {p2 : Option Nat} {p3 : Option Nat} {h hh : Hp}  (hF : f_X9_rates this p0 p1 p2 p3 h = some ((), hh)) : ab_C l D cA sz yX9_rates cX9_rates 7 none 5 0 0 [.ref this, .int p0, .double p1, va_rf p2, va_rf p3] h none hh := by
  refine Met.ofW (cc := cX9_rates) (maxL := 7) (ret := none) (by decide) rfl ?_
  intro p e s m args below meth c s₁ B hml hv
  obtain ⟨rfl, hT, hR⟩ := hv
  have X : ab_X p s m _ meth c cX9_rates 7 RX9 D cA sz := (ab_enter B hml hT hR).1
  have S := (ab_enter B hml hT hR).2
  have hr := B.returns
  obtain ⟨ls, hls, hl⟩ := ab_entry m [.ref this, .int p0, .double p1, va_rf p2, va_rf p3] 7 (lv := [(0, .ref this), (1, .int p0), (2, .double p1), (4, va_rf p2), (5, va_rf p3)]) (by simp [lg_sl, ab_cat, ab_cI, ab_cJ, ab_cD, ab_cF, ab_cA]) (by simp [lv_args, ab_cat, ab_cI, ab_cJ, ab_cD, ab_cF, ab_cA])
  rw [hls]
  have hl : lv_has ls 7 [(0, va_rf (some this)), (1, .int p0), (2, .double p1), (4, va_rf p2), (5, va_rf p3)] := hl
  unfold f_X9_rates at hF
  show W p l e (ab_rm 5 0 0) s m _ below meth c s.heap [] 0 0 _ _
  refine ab_aload_n X dX9_rates_0 rfl (lv_at hl 0 rfl) ?_
  refine lv_iload_n X.1 X.2.1 dX9_rates_1 rfl (lv_at hl 1 rfl) ?_
  refine lv_dload_n X.1 X.2.1 dX9_rates_2 rfl (lv_at hl 2 rfl) ?_
  refine ab_aload X dX9_rates_3 (lv_at hl 3 rfl) ?_
  obtain ⟨a4, e5, hF⟩ := bind_out hF
  obtain ⟨x1, h2, e3, hF⟩ := bnd_out hF
  refine ab_callVv X S e5 (c_X9_all l D cA sz e3) rfl (by decide) mi_X9_all lm_X9_242 li_yX9_all ls_yX9_all (As := [.int p0, .double p1, va_rf p2]) (rest := []) rfl ⟨by decide, by decide⟩ ⟨(by decide), (by decide)⟩ hl.1 rfl (by simp [ab_cat, ab_cI, ab_cJ, ab_cD, ab_cF]) dX9_rates_5 (fun H1 locs1 S => ?_)
  refine lv_iconst (v := 0) X.1 X.2.1 dX9_rates_8 (by decide) ?_
  refine lv_istore (lv' := [(6, .int 0), (0, va_rf (some this)), (1, .int p0), (2, .double p1), (4, va_rf p2), (5, va_rf p3)]) X.1 X.2.1 dX9_rates_9 hl (by decide) (by simp [ab_cat, ab_cI, ab_cJ, ab_cD, ab_cF]) (fun ls hl => ?_)
  exact w_X9_rates_11 X hr  fuelN _ _ _ _ _ _ _ _ S (lv_sub hl [1, 2, 5, 0] rfl) hF
def f_X9_plain_3  : Nat → Option Nat → Int32 → Int32 → UInt64 → Int32 → Hp → Option (Unit × Hp)
  | 0, _, _, _, _, _, _ => none
  | n + 1, v0, v1, v2, v3, v5, h => if v2 ≤ v5 then
      some ((), h)
    else
      (getR h v0 9 49).bind fun x2 =>
      (getR h v0 9 47).bind fun x3 =>
      (aldD h x3 v5).bind fun x4 =>
      (getR h v0 9 52).bind fun x5 =>
      (aldD h x5 v5).bind fun x6 =>
      bnd (f_X9_times v3 x6 h) fun x7 h8 =>
      bnd (f_X9_plus x4 x7 h8) fun x10 h11 =>
      (ab_ck h11 v0 (9, 0)).bind fun a16 =>
      bnd (f_X9_put a16 v1 v5 x10 h11) fun x13 h14 =>
      (astD h14 x2 v5 x13).bind fun h18 =>
      f_X9_plain_3 n v0 v1 v2 v3 (v5 + 1) h18
set_option maxHeartbeats 4000000 in
set_option maxRecDepth 100000 in
theorem w_X9_plain_3 {p : Program} {l : Launch} {e : Env} {s : State} {m : MethodId} {args : Array Value} {below : List Frame} {meth : Method} {c : Code} {D : va_G} {cA : Nat → ClassId} {sz : Nat}  {hh : Hp}  (X : ab_X p s m args meth c cX9_plain 6 RX9 D cA sz) (hr : meth.sig.returnType = none)  (n : Nat) : ∀ (v0 : Option Nat) (v1 : Int32) (v2 : Int32) (v3 : UInt64) (v5 : Int32) (h : Hp) (H : Heap) (locs : List Loc) (ls : Array Slot), ab_H D cA sz h s H locs → lv_has ls 6 [(0, va_rf v0), (1, .int v1), (2, .int v2), (3, .double v3), (5, .int v5)] → f_X9_plain_3 n v0 v1 v2 v3 v5 h = some ((), hh) → W p l e (ab_rm 2 0 0) s m args below meth c H locs 0 0 (MQ below (ab_Q D cA sz none hh) args s 0 0 (fun q => sz ≤ q)) (F0 m 3 ls []) := by
  induction n with
  | zero => intro v0 v1 v2 v3 v5 h H locs ls S hl hF; cases hF
  | succ n ih =>
    intro v0 v1 v2 v3 v5 h H locs ls S hl hF
    rw [f_X9_plain_3] at hF
    refine lv_iload X.1 X.2.1 dX9_plain_3 (lv_at hl 4 rfl) ?_
    refine lv_iload_n X.1 X.2.1 dX9_plain_5 rfl (lv_at hl 2 rfl) ?_
    refine lv_icmp_ge (tgt := 50) X.1 X.2.1 dX9_plain_6 (by decide) (fun c1 => ?_) (fun c1 => ?_)
    · have hF := ab_pos c1 hF
      exact ab_vret X S hr hF dX9_plain_50
    · have hF := ab_neg c1 hF
      refine ab_aload_n X dX9_plain_9 rfl (lv_at hl 0 rfl) ?_
      refine ab_getR X S hF fi_9_49 lf_X9_152 dX9_plain_10 (fun x2 hF => ?_)
      refine lv_iload X.1 X.2.1 dX9_plain_13 (lv_at hl 4 rfl) ?_
      refine ab_aload_n X dX9_plain_15 rfl (lv_at hl 0 rfl) ?_
      refine lv_iload_n X.1 X.2.1 dX9_plain_16 rfl (lv_at hl 1 rfl) ?_
      refine lv_iload X.1 X.2.1 dX9_plain_17 (lv_at hl 4 rfl) ?_
      refine ab_aload_n X dX9_plain_19 rfl (lv_at hl 0 rfl) ?_
      refine ab_getR X S hF fi_9_47 lf_X9_146 dX9_plain_20 (fun x3 hF => ?_)
      refine lv_iload X.1 X.2.1 dX9_plain_23 (lv_at hl 4 rfl) ?_
      refine ab_aldD X S hF dX9_plain_25 (fun x4 hF => ?_)
      refine lv_dload_n X.1 X.2.1 dX9_plain_26 rfl (lv_at hl 3 rfl) ?_
      refine ab_aload_n X dX9_plain_27 rfl (lv_at hl 0 rfl) ?_
      refine ab_getR X S hF fi_9_52 lf_X9_161 dX9_plain_28 (fun x5 hF => ?_)
      refine lv_iload X.1 X.2.1 dX9_plain_31 (lv_at hl 4 rfl) ?_
      refine ab_aldD X S hF dX9_plain_33 (fun x6 hF => ?_)
      obtain ⟨x7, h8, e9, hF⟩ := bnd_out hF
      refine ab_callSd X S (c_X9_times l D cA sz e9) mi_X9_times lm_X9_211 lt_yX9_times (As := [.double v3, .double x6]) (rest := [.double x4, .int v5, .int v1, va_rf v0, .int v5, va_rf x2]) rfl ⟨by decide, by decide⟩ ⟨(by decide), (by decide)⟩ hl.1 rfl (by simp [ab_cat, ab_cI, ab_cJ, ab_cD, ab_cF]) dX9_plain_34 (fun H1 locs1 S => ?_)
      obtain ⟨x10, h11, e12, hF⟩ := bnd_out hF
      refine ab_callSd X S (c_X9_plus l D cA sz e12) mi_X9_plus lm_X9_214 lt_yX9_plus (As := [.double x4, .double x7]) (rest := [.int v5, .int v1, va_rf v0, .int v5, va_rf x2]) rfl ⟨by decide, by decide⟩ ⟨(by decide), (by decide)⟩ hl.1 rfl (by simp [ab_cat, ab_cI, ab_cJ, ab_cD, ab_cF]) dX9_plain_37 (fun H1 locs1 S => ?_)
      obtain ⟨a16, e17, hF⟩ := bind_out hF
      obtain ⟨x13, h14, e15, hF⟩ := bnd_out hF
      refine ab_callVd X S e17 (c_X9_put l D cA sz e15) rfl (by decide) mi_X9_put lm_X9_281 li_yX9_put ls_yX9_put (As := [.int v1, .int v5, .double x10]) (rest := [.int v5, va_rf x2]) rfl ⟨by decide, by decide⟩ ⟨(by decide), (by decide)⟩ hl.1 rfl (by simp [ab_cat, ab_cI, ab_cJ, ab_cD, ab_cF]) dX9_plain_40 (fun H1 locs1 S => ?_)
      refine ab_astD X S hF dX9_plain_43 (fun h18 H1 locs1 hF S => ?_)
      refine lv_iinc (v := v5 + 1) (lv' := [(5, .int (v5 + 1)), (0, va_rf v0), (1, .int v1), (2, .int v2), (3, .double v3)]) X.1 X.2.1 dX9_plain_44 hl (k := 4) rfl (by rfl) (by decide) (by simp [ab_cat, ab_cI, ab_cJ, ab_cD, ab_cF]) (fun ls hl => ?_)
      refine lv_goto (tgt := 3) X.1 X.2.1 dX9_plain_47 (by decide) ?_
      exact ih _ _ _ _ _ _ _ _ _ S (lv_sub hl [1, 2, 3, 4, 0] rfl) hF
def f_X9_plain (this : Nat) (p0 : Int32) (p1 : Int32) (p2 : UInt64) (h : Hp) : Option (Unit × Hp) :=
  f_X9_plain_3 fuelN (some this) p0 p1 p2 0 h
theorem mi_X9_plain : ab_MI yX9_plain cX9_plain 6 none 3 := ⟨lc_yX9_plain, lz_RX9, by decide, by decide, by decide +kernel⟩
set_option maxHeartbeats 4000000 in
set_option maxRecDepth 100000 in
theorem c_X9_plain (l : Launch) (D : va_G) (cA : Nat → ClassId) (sz : Nat) {this : Nat} {p0 : Int32} {p1 : Int32} {p2 : UInt64} {h hh : Hp}  (hF : f_X9_plain this p0 p1 p2 h = some ((), hh)) : ab_C l D cA sz yX9_plain cX9_plain 6 none 2 0 0 [.ref this, .int p0, .int p1, .double p2] h none hh := by
  refine Met.ofW (cc := cX9_plain) (maxL := 6) (ret := none) (by decide) rfl ?_
  intro p e s m args below meth c s₁ B hml hv
  obtain ⟨rfl, hT, hR⟩ := hv
  have X : ab_X p s m _ meth c cX9_plain 6 RX9 D cA sz := (ab_enter B hml hT hR).1
  have S := (ab_enter B hml hT hR).2
  have hr := B.returns
  obtain ⟨ls, hls, hl⟩ := ab_entry m [.ref this, .int p0, .int p1, .double p2] 6 (lv := [(0, .ref this), (1, .int p0), (2, .int p1), (3, .double p2)]) (by simp [lg_sl, ab_cat, ab_cI, ab_cJ, ab_cD, ab_cF, ab_cA]) (by simp [lv_args, ab_cat, ab_cI, ab_cJ, ab_cD, ab_cF, ab_cA])
  rw [hls]
  have hl : lv_has ls 6 [(0, va_rf (some this)), (1, .int p0), (2, .int p1), (3, .double p2)] := hl
  unfold f_X9_plain at hF
  show W p l e (ab_rm 2 0 0) s m _ below meth c s.heap [] 0 0 _ _
  refine lv_iconst (v := 0) X.1 X.2.1 dX9_plain_0 (by decide) ?_
  refine lv_istore (lv' := [(5, .int 0), (0, va_rf (some this)), (1, .int p0), (2, .int p1), (3, .double p2)]) X.1 X.2.1 dX9_plain_1 hl (by decide) (by simp [ab_cat, ab_cI, ab_cJ, ab_cD, ab_cF]) (fun ls hl => ?_)
  exact w_X9_plain_3 X hr  fuelN _ _ _ _ _ _ _ _ _ S (lv_sub hl [1, 2, 3, 4, 0] rfl) hF
def f_X9_byMiddle_79  : Nat → Option Nat → Int32 → Int32 → UInt64 → Int32 → Hp → Option (Unit × Hp)
  | 0, _, _, _, _, _, _ => none
  | n + 1, v0, v1, v2, v5, v9, h => if v2 ≤ v9 then
      some ((), h)
    else
      (getR h v0 9 49).bind fun x2 =>
      (getR h v0 9 47).bind fun x3 =>
      (aldD h x3 v9).bind fun x4 =>
      (getR h v0 9 53).bind fun x5 =>
      (aldD h x5 v9).bind fun x6 =>
      bnd (f_X9_times v5 x6 h) fun x7 h8 =>
      bnd (f_X9_plus x4 x7 h8) fun x10 h11 =>
      (ab_ck h11 v0 (9, 0)).bind fun a16 =>
      bnd (f_X9_put a16 v1 v9 x10 h11) fun x13 h14 =>
      (astD h14 x2 v9 x13).bind fun h18 =>
      f_X9_byMiddle_79 n v0 v1 v2 v5 (v9 + 1) h18
set_option maxHeartbeats 4000000 in
set_option maxRecDepth 100000 in
theorem w_X9_byMiddle_79 {p : Program} {l : Launch} {e : Env} {s : State} {m : MethodId} {args : Array Value} {below : List Frame} {meth : Method} {c : Code} {D : va_G} {cA : Nat → ClassId} {sz : Nat}  {hh : Hp}  (X : ab_X p s m args meth c cX9_byMiddle 10 RX9 D cA sz) (hr : meth.sig.returnType = none)  (n : Nat) : ∀ (v0 : Option Nat) (v1 : Int32) (v2 : Int32) (v5 : UInt64) (v9 : Int32) (h : Hp) (H : Heap) (locs : List Loc) (ls : Array Slot), ab_H D cA sz h s H locs → lv_has ls 10 [(0, va_rf v0), (1, .int v1), (2, .int v2), (5, .double v5), (9, .int v9)] → f_X9_byMiddle_79 n v0 v1 v2 v5 v9 h = some ((), hh) → W p l e (ab_rm 6 0 0) s m args below meth c H locs 0 0 (MQ below (ab_Q D cA sz none hh) args s 0 0 (fun q => sz ≤ q)) (F0 m 79 ls []) := by
  induction n with
  | zero => intro v0 v1 v2 v5 v9 h H locs ls S hl hF; cases hF
  | succ n ih =>
    intro v0 v1 v2 v5 v9 h H locs ls S hl hF
    rw [f_X9_byMiddle_79] at hF
    refine lv_iload X.1 X.2.1 dX9_byMiddle_79 (lv_at hl 4 rfl) ?_
    refine lv_iload_n X.1 X.2.1 dX9_byMiddle_81 rfl (lv_at hl 2 rfl) ?_
    refine lv_icmp_ge (tgt := 127) X.1 X.2.1 dX9_byMiddle_82 (by decide) (fun c1 => ?_) (fun c1 => ?_)
    · have hF := ab_pos c1 hF
      exact ab_vret X S hr hF dX9_byMiddle_127
    · have hF := ab_neg c1 hF
      refine ab_aload_n X dX9_byMiddle_85 rfl (lv_at hl 0 rfl) ?_
      refine ab_getR X S hF fi_9_49 lf_X9_152 dX9_byMiddle_86 (fun x2 hF => ?_)
      refine lv_iload X.1 X.2.1 dX9_byMiddle_89 (lv_at hl 4 rfl) ?_
      refine ab_aload_n X dX9_byMiddle_91 rfl (lv_at hl 0 rfl) ?_
      refine lv_iload_n X.1 X.2.1 dX9_byMiddle_92 rfl (lv_at hl 1 rfl) ?_
      refine lv_iload X.1 X.2.1 dX9_byMiddle_93 (lv_at hl 4 rfl) ?_
      refine ab_aload_n X dX9_byMiddle_95 rfl (lv_at hl 0 rfl) ?_
      refine ab_getR X S hF fi_9_47 lf_X9_146 dX9_byMiddle_96 (fun x3 hF => ?_)
      refine lv_iload X.1 X.2.1 dX9_byMiddle_99 (lv_at hl 4 rfl) ?_
      refine ab_aldD X S hF dX9_byMiddle_101 (fun x4 hF => ?_)
      refine lv_dload X.1 X.2.1 dX9_byMiddle_102 (lv_at hl 3 rfl) ?_
      refine ab_aload_n X dX9_byMiddle_104 rfl (lv_at hl 0 rfl) ?_
      refine ab_getR X S hF fi_9_53 lf_X9_164 dX9_byMiddle_105 (fun x5 hF => ?_)
      refine lv_iload X.1 X.2.1 dX9_byMiddle_108 (lv_at hl 4 rfl) ?_
      refine ab_aldD X S hF dX9_byMiddle_110 (fun x6 hF => ?_)
      obtain ⟨x7, h8, e9, hF⟩ := bnd_out hF
      refine ab_callSd X S (c_X9_times l D cA sz e9) mi_X9_times lm_X9_211 lt_yX9_times (As := [.double v5, .double x6]) (rest := [.double x4, .int v9, .int v1, va_rf v0, .int v9, va_rf x2]) rfl ⟨by decide, by decide⟩ ⟨(by decide), (by decide)⟩ hl.1 rfl (by simp [ab_cat, ab_cI, ab_cJ, ab_cD, ab_cF]) dX9_byMiddle_111 (fun H1 locs1 S => ?_)
      obtain ⟨x10, h11, e12, hF⟩ := bnd_out hF
      refine ab_callSd X S (c_X9_plus l D cA sz e12) mi_X9_plus lm_X9_214 lt_yX9_plus (As := [.double x4, .double x7]) (rest := [.int v9, .int v1, va_rf v0, .int v9, va_rf x2]) rfl ⟨by decide, by decide⟩ ⟨(by decide), (by decide)⟩ hl.1 rfl (by simp [ab_cat, ab_cI, ab_cJ, ab_cD, ab_cF]) dX9_byMiddle_114 (fun H1 locs1 S => ?_)
      obtain ⟨a16, e17, hF⟩ := bind_out hF
      obtain ⟨x13, h14, e15, hF⟩ := bnd_out hF
      refine ab_callVd X S e17 (c_X9_put l D cA sz e15) rfl (by decide) mi_X9_put lm_X9_281 li_yX9_put ls_yX9_put (As := [.int v1, .int v9, .double x10]) (rest := [.int v9, va_rf x2]) rfl ⟨by decide, by decide⟩ ⟨(by decide), (by decide)⟩ hl.1 rfl (by simp [ab_cat, ab_cI, ab_cJ, ab_cD, ab_cF]) dX9_byMiddle_117 (fun H1 locs1 S => ?_)
      refine ab_astD X S hF dX9_byMiddle_120 (fun h18 H1 locs1 hF S => ?_)
      refine lv_iinc (v := v9 + 1) (lv' := [(9, .int (v9 + 1)), (0, va_rf v0), (1, .int v1), (2, .int v2), (5, .double v5)]) X.1 X.2.1 dX9_byMiddle_121 hl (k := 4) rfl (by rfl) (by decide) (by simp [ab_cat, ab_cI, ab_cJ, ab_cD, ab_cF]) (fun ls hl => ?_)
      refine lv_goto (tgt := 79) X.1 X.2.1 dX9_byMiddle_124 (by decide) ?_
      exact ih _ _ _ _ _ _ _ _ _ S (lv_sub hl [1, 2, 3, 4, 0] rfl) hF
def f_X9_byMiddle_11  : Nat → Option Nat → Int32 → Int32 → UInt64 → UInt64 → UInt64 → Int32 → Hp → Option (Unit × Hp)
  | 0, _, _, _, _, _, _, _, _ => none
  | n + 1, v0, v1, v2, v3, v5, v7, v9, h => if v2 ≤ v9 then
      (fop (FP.dadd v3 v7)).bind fun x2 =>
      (getR h v0 9 48).bind fun x3 =>
      (getR h v0 9 53).bind fun x4 =>
      (ab_ck h v0 (9, 0)).bind fun a8 =>
      bnd (f_X9_rates a8 v1 x2 x3 x4 h) fun _ h6 =>
      f_X9_byMiddle_79 fuelN v0 v1 v2 v5 0 h6
    else
      (getR h v0 9 48).bind fun x10 =>
      (getR h v0 9 47).bind fun x11 =>
      (aldD h x11 v9).bind fun x12 =>
      (getR h v0 9 52).bind fun x13 =>
      (aldD h x13 v9).bind fun x14 =>
      bnd (f_X9_times v7 x14 h) fun x15 h16 =>
      bnd (f_X9_plus x12 x15 h16) fun x18 h19 =>
      (ab_ck h19 v0 (9, 0)).bind fun a24 =>
      bnd (f_X9_put a24 v1 v9 x18 h19) fun x21 h22 =>
      (astD h22 x10 v9 x21).bind fun h26 =>
      f_X9_byMiddle_11 n v0 v1 v2 v3 v5 v7 (v9 + 1) h26
set_option maxHeartbeats 4000000 in
set_option maxRecDepth 100000 in
theorem w_X9_byMiddle_11 {p : Program} {l : Launch} {e : Env} {s : State} {m : MethodId} {args : Array Value} {below : List Frame} {meth : Method} {c : Code} {D : va_G} {cA : Nat → ClassId} {sz : Nat}  {hh : Hp}  (X : ab_X p s m args meth c cX9_byMiddle 10 RX9 D cA sz) (hr : meth.sig.returnType = none)  (n : Nat) : ∀ (v0 : Option Nat) (v1 : Int32) (v2 : Int32) (v3 : UInt64) (v5 : UInt64) (v7 : UInt64) (v9 : Int32) (h : Hp) (H : Heap) (locs : List Loc) (ls : Array Slot), ab_H D cA sz h s H locs → lv_has ls 10 [(0, va_rf v0), (1, .int v1), (2, .int v2), (3, .double v3), (5, .double v5), (7, .double v7), (9, .int v9)] → f_X9_byMiddle_11 n v0 v1 v2 v3 v5 v7 v9 h = some ((), hh) → W p l e (ab_rm 6 0 0) s m args below meth c H locs 0 0 (MQ below (ab_Q D cA sz none hh) args s 0 0 (fun q => sz ≤ q)) (F0 m 11 ls []) := by
  induction n with
  | zero => intro v0 v1 v2 v3 v5 v7 v9 h H locs ls S hl hF; cases hF
  | succ n ih =>
    intro v0 v1 v2 v3 v5 v7 v9 h H locs ls S hl hF
    rw [f_X9_byMiddle_11] at hF
    refine lv_iload X.1 X.2.1 dX9_byMiddle_11 (lv_at hl 6 rfl) ?_
    refine lv_iload_n X.1 X.2.1 dX9_byMiddle_13 rfl (lv_at hl 2 rfl) ?_
    refine lv_icmp_ge (tgt := 59) X.1 X.2.1 dX9_byMiddle_14 (by decide) (fun c1 => ?_) (fun c1 => ?_)
    · have hF := ab_pos c1 hF
      refine ab_aload_n X dX9_byMiddle_59 rfl (lv_at hl 0 rfl) ?_
      refine lv_iload_n X.1 X.2.1 dX9_byMiddle_60 rfl (lv_at hl 1 rfl) ?_
      refine lv_dload_n X.1 X.2.1 dX9_byMiddle_61 rfl (lv_at hl 3 rfl) ?_
      refine lv_dload X.1 X.2.1 dX9_byMiddle_62 (lv_at hl 5 rfl) ?_
      obtain ⟨x2, ev, ne, hF⟩ := ab_fopx hF
      refine lv_dadd X.1 X.2.1 dX9_byMiddle_64 ne ?_
      rw [ev]
      refine ab_aload_n X dX9_byMiddle_65 rfl (lv_at hl 0 rfl) ?_
      refine ab_getR X S hF fi_9_48 lf_X9_149 dX9_byMiddle_66 (fun x3 hF => ?_)
      refine ab_aload_n X dX9_byMiddle_69 rfl (lv_at hl 0 rfl) ?_
      refine ab_getR X S hF fi_9_53 lf_X9_164 dX9_byMiddle_70 (fun x4 hF => ?_)
      obtain ⟨a8, e9, hF⟩ := bind_out hF
      obtain ⟨x5, h6, e7, hF⟩ := bnd_out hF
      refine ab_callVv X S e9 (c_X9_rates l D cA sz e7) rfl (by decide) mi_X9_rates lm_X9_254 li_yX9_rates ls_yX9_rates (As := [.int v1, .double x2, va_rf x3, va_rf x4]) (rest := []) rfl ⟨by decide, by decide⟩ ⟨(by decide), (by decide)⟩ hl.1 rfl (by simp [ab_cat, ab_cI, ab_cJ, ab_cD, ab_cF]) dX9_byMiddle_73 (fun H1 locs1 S => ?_)
      refine lv_iconst (v := 0) X.1 X.2.1 dX9_byMiddle_76 (by decide) ?_
      refine lv_istore (lv' := [(9, .int 0), (0, va_rf v0), (1, .int v1), (2, .int v2), (3, .double v3), (5, .double v5), (7, .double v7)]) X.1 X.2.1 dX9_byMiddle_77 hl (by decide) (by simp [ab_cat, ab_cI, ab_cJ, ab_cD, ab_cF]) (fun ls hl => ?_)
      exact w_X9_byMiddle_79 X hr  fuelN _ _ _ _ _ _ _ _ _ S (lv_sub hl [1, 2, 3, 5, 0] rfl) hF
    · have hF := ab_neg c1 hF
      refine ab_aload_n X dX9_byMiddle_17 rfl (lv_at hl 0 rfl) ?_
      refine ab_getR X S hF fi_9_48 lf_X9_149 dX9_byMiddle_18 (fun x10 hF => ?_)
      refine lv_iload X.1 X.2.1 dX9_byMiddle_21 (lv_at hl 6 rfl) ?_
      refine ab_aload_n X dX9_byMiddle_23 rfl (lv_at hl 0 rfl) ?_
      refine lv_iload_n X.1 X.2.1 dX9_byMiddle_24 rfl (lv_at hl 1 rfl) ?_
      refine lv_iload X.1 X.2.1 dX9_byMiddle_25 (lv_at hl 6 rfl) ?_
      refine ab_aload_n X dX9_byMiddle_27 rfl (lv_at hl 0 rfl) ?_
      refine ab_getR X S hF fi_9_47 lf_X9_146 dX9_byMiddle_28 (fun x11 hF => ?_)
      refine lv_iload X.1 X.2.1 dX9_byMiddle_31 (lv_at hl 6 rfl) ?_
      refine ab_aldD X S hF dX9_byMiddle_33 (fun x12 hF => ?_)
      refine lv_dload X.1 X.2.1 dX9_byMiddle_34 (lv_at hl 5 rfl) ?_
      refine ab_aload_n X dX9_byMiddle_36 rfl (lv_at hl 0 rfl) ?_
      refine ab_getR X S hF fi_9_52 lf_X9_161 dX9_byMiddle_37 (fun x13 hF => ?_)
      refine lv_iload X.1 X.2.1 dX9_byMiddle_40 (lv_at hl 6 rfl) ?_
      refine ab_aldD X S hF dX9_byMiddle_42 (fun x14 hF => ?_)
      obtain ⟨x15, h16, e17, hF⟩ := bnd_out hF
      refine ab_callSd X S (c_X9_times l D cA sz e17) mi_X9_times lm_X9_211 lt_yX9_times (As := [.double v7, .double x14]) (rest := [.double x12, .int v9, .int v1, va_rf v0, .int v9, va_rf x10]) rfl ⟨by decide, by decide⟩ ⟨(by decide), (by decide)⟩ hl.1 rfl (by simp [ab_cat, ab_cI, ab_cJ, ab_cD, ab_cF]) dX9_byMiddle_43 (fun H1 locs1 S => ?_)
      obtain ⟨x18, h19, e20, hF⟩ := bnd_out hF
      refine ab_callSd X S (c_X9_plus l D cA sz e20) mi_X9_plus lm_X9_214 lt_yX9_plus (As := [.double x12, .double x15]) (rest := [.int v9, .int v1, va_rf v0, .int v9, va_rf x10]) rfl ⟨by decide, by decide⟩ ⟨(by decide), (by decide)⟩ hl.1 rfl (by simp [ab_cat, ab_cI, ab_cJ, ab_cD, ab_cF]) dX9_byMiddle_46 (fun H1 locs1 S => ?_)
      obtain ⟨a24, e25, hF⟩ := bind_out hF
      obtain ⟨x21, h22, e23, hF⟩ := bnd_out hF
      refine ab_callVd X S e25 (c_X9_put l D cA sz e23) rfl (by decide) mi_X9_put lm_X9_281 li_yX9_put ls_yX9_put (As := [.int v1, .int v9, .double x18]) (rest := [.int v9, va_rf x10]) rfl ⟨by decide, by decide⟩ ⟨(by decide), (by decide)⟩ hl.1 rfl (by simp [ab_cat, ab_cI, ab_cJ, ab_cD, ab_cF]) dX9_byMiddle_49 (fun H1 locs1 S => ?_)
      refine ab_astD X S hF dX9_byMiddle_52 (fun h26 H1 locs1 hF S => ?_)
      refine lv_iinc (v := v9 + 1) (lv' := [(9, .int (v9 + 1)), (0, va_rf v0), (1, .int v1), (2, .int v2), (3, .double v3), (5, .double v5), (7, .double v7)]) X.1 X.2.1 dX9_byMiddle_53 hl (k := 6) rfl (by rfl) (by decide) (by simp [ab_cat, ab_cI, ab_cJ, ab_cD, ab_cF]) (fun ls hl => ?_)
      refine lv_goto (tgt := 11) X.1 X.2.1 dX9_byMiddle_56 (by decide) ?_
      exact ih _ _ _ _ _ _ _ _ _ _ _ S (lv_sub hl [1, 2, 3, 4, 5, 6, 0] rfl) hF
def f_X9_byMiddle (this : Nat) (p0 : Int32) (p1 : Int32) (p2 : UInt64) (p3 : UInt64) (h : Hp) : Option (Unit × Hp) :=
  (fop (FP.ddiv p3 4611686018427387904)).bind fun x1 =>
  f_X9_byMiddle_11 fuelN (some this) p0 p1 p2 p3 x1 0 h
theorem mi_X9_byMiddle : ab_MI yX9_byMiddle cX9_byMiddle 10 none 4 := ⟨lc_yX9_byMiddle, lz_RX9, by decide, by decide, by decide +kernel⟩
set_option maxHeartbeats 4000000 in
set_option maxRecDepth 100000 in
theorem c_X9_byMiddle (l : Launch) (D : va_G) (cA : Nat → ClassId) (sz : Nat) {this : Nat} {p0 : Int32} {p1 : Int32} {p2 : UInt64} {p3 : UInt64} {h hh : Hp}  (hF : f_X9_byMiddle this p0 p1 p2 p3 h = some ((), hh)) : ab_C l D cA sz yX9_byMiddle cX9_byMiddle 10 none 6 0 0 [.ref this, .int p0, .int p1, .double p2, .double p3] h none hh := by
  refine Met.ofW (cc := cX9_byMiddle) (maxL := 10) (ret := none) (by decide) rfl ?_
  intro p e s m args below meth c s₁ B hml hv
  obtain ⟨rfl, hT, hR⟩ := hv
  have X : ab_X p s m _ meth c cX9_byMiddle 10 RX9 D cA sz := (ab_enter B hml hT hR).1
  have S := (ab_enter B hml hT hR).2
  have hr := B.returns
  obtain ⟨ls, hls, hl⟩ := ab_entry m [.ref this, .int p0, .int p1, .double p2, .double p3] 10 (lv := [(0, .ref this), (1, .int p0), (2, .int p1), (3, .double p2), (5, .double p3)]) (by simp [lg_sl, ab_cat, ab_cI, ab_cJ, ab_cD, ab_cF, ab_cA]) (by simp [lv_args, ab_cat, ab_cI, ab_cJ, ab_cD, ab_cF, ab_cA])
  rw [hls]
  have hl : lv_has ls 10 [(0, va_rf (some this)), (1, .int p0), (2, .int p1), (3, .double p2), (5, .double p3)] := hl
  unfold f_X9_byMiddle at hF
  show W p l e (ab_rm 6 0 0) s m _ below meth c s.heap [] 0 0 _ _
  refine lv_dload X.1 X.2.1 dX9_byMiddle_0 (lv_at hl 4 rfl) ?_
  refine lv_ldc2d (v := 4611686018427387904) X.1 X.2.1 X.2.2.2.1 (X.2.2.2.2.1 _ ld_X9_285) dX9_byMiddle_2 ?_
  obtain ⟨x1, ev, ne, hF⟩ := ab_fopx hF
  refine lv_ddiv X.1 X.2.1 dX9_byMiddle_5 ne ?_
  rw [ev]
  refine lv_dstore (lv' := [(7, .double x1), (0, va_rf (some this)), (1, .int p0), (2, .int p1), (3, .double p2), (5, .double p3)]) X.1 X.2.1 dX9_byMiddle_6 hl (by decide) (by simp [ab_cat, ab_cI, ab_cJ, ab_cD, ab_cF]) (fun ls hl => ?_)
  refine lv_iconst (v := 0) X.1 X.2.1 dX9_byMiddle_8 (by decide) ?_
  refine lv_istore (lv' := [(9, .int 0), (7, .double x1), (0, va_rf (some this)), (1, .int p0), (2, .int p1), (3, .double p2), (5, .double p3)]) X.1 X.2.1 dX9_byMiddle_9 hl (by decide) (by simp [ab_cat, ab_cI, ab_cJ, ab_cD, ab_cF]) (fun ls hl => ?_)
  exact w_X9_byMiddle_11 X hr  fuelN _ _ _ _ _ _ _ _ _ _ _ S (lv_sub hl [2, 3, 4, 5, 6, 1, 0] rfl) hF
def f_X9_third_163  : Nat → Option Nat → Int32 → Int32 → UInt64 → Int32 → Hp → Option (Unit × Hp)
  | 0, _, _, _, _, _, _ => none
  | n + 1, v0, v1, v2, v5, v9, h => if v2 ≤ v9 then
      some ((), h)
    else
      (getR h v0 9 49).bind fun x2 =>
      (getR h v0 9 47).bind fun x3 =>
      (aldD h x3 v9).bind fun x4 =>
      (fop (FP.ddiv v5 4618441417868443648)).bind fun x5 =>
      (getR h v0 9 52).bind fun x6 =>
      (aldD h x6 v9).bind fun x7 =>
      (getR h v0 9 53).bind fun x8 =>
      (aldD h x8 v9).bind fun x9 =>
      bnd (f_X9_times 4616189618054758400 x9 h) fun x10 h11 =>
      bnd (f_X9_plus x7 x10 h11) fun x13 h14 =>
      (getR h14 v0 9 54).bind fun x16 =>
      (aldD h14 x16 v9).bind fun x17 =>
      bnd (f_X9_plus x13 x17 h14) fun x18 h19 =>
      bnd (f_X9_times x5 x18 h19) fun x21 h22 =>
      bnd (f_X9_plus x4 x21 h22) fun x24 h25 =>
      (ab_ck h25 v0 (9, 0)).bind fun a30 =>
      bnd (f_X9_put a30 v1 v9 x24 h25) fun x27 h28 =>
      (astD h28 x2 v9 x27).bind fun h32 =>
      f_X9_third_163 n v0 v1 v2 v5 (v9 + 1) h32
set_option maxHeartbeats 4000000 in
set_option maxRecDepth 100000 in
theorem w_X9_third_163 {p : Program} {l : Launch} {e : Env} {s : State} {m : MethodId} {args : Array Value} {below : List Frame} {meth : Method} {c : Code} {D : va_G} {cA : Nat → ClassId} {sz : Nat}  {hh : Hp}  (X : ab_X p s m args meth c cX9_third 10 RX9 D cA sz) (hr : meth.sig.returnType = none)  (n : Nat) : ∀ (v0 : Option Nat) (v1 : Int32) (v2 : Int32) (v5 : UInt64) (v9 : Int32) (h : Hp) (H : Heap) (locs : List Loc) (ls : Array Slot), ab_H D cA sz h s H locs → lv_has ls 10 [(0, va_rf v0), (1, .int v1), (2, .int v2), (5, .double v5), (9, .int v9)] → f_X9_third_163 n v0 v1 v2 v5 v9 h = some ((), hh) → W p l e (ab_rm 6 0 0) s m args below meth c H locs 0 0 (MQ below (ab_Q D cA sz none hh) args s 0 0 (fun q => sz ≤ q)) (F0 m 163 ls []) := by
  induction n with
  | zero => intro v0 v1 v2 v5 v9 h H locs ls S hl hF; cases hF
  | succ n ih =>
    intro v0 v1 v2 v5 v9 h H locs ls S hl hF
    rw [f_X9_third_163] at hF
    refine lv_iload X.1 X.2.1 dX9_third_163 (lv_at hl 4 rfl) ?_
    refine lv_iload_n X.1 X.2.1 dX9_third_165 rfl (lv_at hl 2 rfl) ?_
    refine lv_icmp_ge (tgt := 241) X.1 X.2.1 dX9_third_166 (by decide) (fun c1 => ?_) (fun c1 => ?_)
    · have hF := ab_pos c1 hF
      exact ab_vret X S hr hF dX9_third_241
    · have hF := ab_neg c1 hF
      refine ab_aload_n X dX9_third_169 rfl (lv_at hl 0 rfl) ?_
      refine ab_getR X S hF fi_9_49 lf_X9_152 dX9_third_170 (fun x2 hF => ?_)
      refine lv_iload X.1 X.2.1 dX9_third_173 (lv_at hl 4 rfl) ?_
      refine ab_aload_n X dX9_third_175 rfl (lv_at hl 0 rfl) ?_
      refine lv_iload_n X.1 X.2.1 dX9_third_176 rfl (lv_at hl 1 rfl) ?_
      refine lv_iload X.1 X.2.1 dX9_third_177 (lv_at hl 4 rfl) ?_
      refine ab_aload_n X dX9_third_179 rfl (lv_at hl 0 rfl) ?_
      refine ab_getR X S hF fi_9_47 lf_X9_146 dX9_third_180 (fun x3 hF => ?_)
      refine lv_iload X.1 X.2.1 dX9_third_183 (lv_at hl 4 rfl) ?_
      refine ab_aldD X S hF dX9_third_185 (fun x4 hF => ?_)
      refine lv_dload X.1 X.2.1 dX9_third_186 (lv_at hl 3 rfl) ?_
      refine lv_ldc2d (v := 4618441417868443648) X.1 X.2.1 X.2.2.2.1 (X.2.2.2.2.1 _ ld_X9_287) dX9_third_188 ?_
      obtain ⟨x5, ev, ne, hF⟩ := ab_fopx hF
      refine lv_ddiv X.1 X.2.1 dX9_third_191 ne ?_
      rw [ev]
      refine ab_aload_n X dX9_third_192 rfl (lv_at hl 0 rfl) ?_
      refine ab_getR X S hF fi_9_52 lf_X9_161 dX9_third_193 (fun x6 hF => ?_)
      refine lv_iload X.1 X.2.1 dX9_third_196 (lv_at hl 4 rfl) ?_
      refine ab_aldD X S hF dX9_third_198 (fun x7 hF => ?_)
      refine lv_ldc2d (v := 4616189618054758400) X.1 X.2.1 X.2.2.2.1 (X.2.2.2.2.1 _ ld_X9_289) dX9_third_199 ?_
      refine ab_aload_n X dX9_third_202 rfl (lv_at hl 0 rfl) ?_
      refine ab_getR X S hF fi_9_53 lf_X9_164 dX9_third_203 (fun x8 hF => ?_)
      refine lv_iload X.1 X.2.1 dX9_third_206 (lv_at hl 4 rfl) ?_
      refine ab_aldD X S hF dX9_third_208 (fun x9 hF => ?_)
      obtain ⟨x10, h11, e12, hF⟩ := bnd_out hF
      refine ab_callSd X S (c_X9_times l D cA sz e12) mi_X9_times lm_X9_211 lt_yX9_times (As := [.double 4616189618054758400, .double x9]) (rest := [.double x7, .double x5, .double x4, .int v9, .int v1, va_rf v0, .int v9, va_rf x2]) rfl ⟨by decide, by decide⟩ ⟨(by decide), (by decide)⟩ hl.1 rfl (by simp [ab_cat, ab_cI, ab_cJ, ab_cD, ab_cF]) dX9_third_209 (fun H1 locs1 S => ?_)
      obtain ⟨x13, h14, e15, hF⟩ := bnd_out hF
      refine ab_callSd X S (c_X9_plus l D cA sz e15) mi_X9_plus lm_X9_214 lt_yX9_plus (As := [.double x7, .double x10]) (rest := [.double x5, .double x4, .int v9, .int v1, va_rf v0, .int v9, va_rf x2]) rfl ⟨by decide, by decide⟩ ⟨(by decide), (by decide)⟩ hl.1 rfl (by simp [ab_cat, ab_cI, ab_cJ, ab_cD, ab_cF]) dX9_third_212 (fun H1 locs1 S => ?_)
      refine ab_aload_n X dX9_third_215 rfl (lv_at hl 0 rfl) ?_
      refine ab_getR X S hF fi_9_54 lf_X9_167 dX9_third_216 (fun x16 hF => ?_)
      refine lv_iload X.1 X.2.1 dX9_third_219 (lv_at hl 4 rfl) ?_
      refine ab_aldD X S hF dX9_third_221 (fun x17 hF => ?_)
      obtain ⟨x18, h19, e20, hF⟩ := bnd_out hF
      refine ab_callSd X S (c_X9_plus l D cA sz e20) mi_X9_plus lm_X9_214 lt_yX9_plus (As := [.double x13, .double x17]) (rest := [.double x5, .double x4, .int v9, .int v1, va_rf v0, .int v9, va_rf x2]) rfl ⟨by decide, by decide⟩ ⟨(by decide), (by decide)⟩ hl.1 rfl (by simp [ab_cat, ab_cI, ab_cJ, ab_cD, ab_cF]) dX9_third_222 (fun H1 locs1 S => ?_)
      obtain ⟨x21, h22, e23, hF⟩ := bnd_out hF
      refine ab_callSd X S (c_X9_times l D cA sz e23) mi_X9_times lm_X9_211 lt_yX9_times (As := [.double x5, .double x18]) (rest := [.double x4, .int v9, .int v1, va_rf v0, .int v9, va_rf x2]) rfl ⟨by decide, by decide⟩ ⟨(by decide), (by decide)⟩ hl.1 rfl (by simp [ab_cat, ab_cI, ab_cJ, ab_cD, ab_cF]) dX9_third_225 (fun H1 locs1 S => ?_)
      obtain ⟨x24, h25, e26, hF⟩ := bnd_out hF
      refine ab_callSd X S (c_X9_plus l D cA sz e26) mi_X9_plus lm_X9_214 lt_yX9_plus (As := [.double x4, .double x21]) (rest := [.int v9, .int v1, va_rf v0, .int v9, va_rf x2]) rfl ⟨by decide, by decide⟩ ⟨(by decide), (by decide)⟩ hl.1 rfl (by simp [ab_cat, ab_cI, ab_cJ, ab_cD, ab_cF]) dX9_third_228 (fun H1 locs1 S => ?_)
      obtain ⟨a30, e31, hF⟩ := bind_out hF
      obtain ⟨x27, h28, e29, hF⟩ := bnd_out hF
      refine ab_callVd X S e31 (c_X9_put l D cA sz e29) rfl (by decide) mi_X9_put lm_X9_281 li_yX9_put ls_yX9_put (As := [.int v1, .int v9, .double x24]) (rest := [.int v9, va_rf x2]) rfl ⟨by decide, by decide⟩ ⟨(by decide), (by decide)⟩ hl.1 rfl (by simp [ab_cat, ab_cI, ab_cJ, ab_cD, ab_cF]) dX9_third_231 (fun H1 locs1 S => ?_)
      refine ab_astD X S hF dX9_third_234 (fun h32 H1 locs1 hF S => ?_)
      refine lv_iinc (v := v9 + 1) (lv' := [(9, .int (v9 + 1)), (0, va_rf v0), (1, .int v1), (2, .int v2), (5, .double v5)]) X.1 X.2.1 dX9_third_235 hl (k := 4) rfl (by rfl) (by decide) (by simp [ab_cat, ab_cI, ab_cJ, ab_cD, ab_cF]) (fun ls hl => ?_)
      refine lv_goto (tgt := 163) X.1 X.2.1 dX9_third_238 (by decide) ?_
      exact ih _ _ _ _ _ _ _ _ _ S (lv_sub hl [1, 2, 3, 4, 0] rfl) hF
def f_X9_third_79  : Nat → Option Nat → Int32 → Int32 → UInt64 → UInt64 → Int32 → Hp → Option (Unit × Hp)
  | 0, _, _, _, _, _, _, _ => none
  | n + 1, v0, v1, v2, v3, v5, v9, h => if v2 ≤ v9 then
      (fop (FP.dadd v3 v5)).bind fun x2 =>
      (getR h v0 9 48).bind fun x3 =>
      (getR h v0 9 54).bind fun x4 =>
      (ab_ck h v0 (9, 0)).bind fun a8 =>
      bnd (f_X9_rates a8 v1 x2 x3 x4 h) fun _ h6 =>
      f_X9_third_163 fuelN v0 v1 v2 v5 0 h6
    else
      (getR h v0 9 48).bind fun x10 =>
      (getR h v0 9 47).bind fun x11 =>
      (aldD h x11 v9).bind fun x12 =>
      (getR h v0 9 53).bind fun x13 =>
      (aldD h x13 v9).bind fun x14 =>
      bnd (f_X9_times 4611686018427387904 x14 h) fun x15 h16 =>
      (getR h16 v0 9 52).bind fun x18 =>
      (aldD h16 x18 v9).bind fun x19 =>
      bnd (f_X9_less x15 x19 h16) fun x20 h21 =>
      bnd (f_X9_times v5 x20 h21) fun x23 h24 =>
      bnd (f_X9_plus x12 x23 h24) fun x26 h27 =>
      (ab_ck h27 v0 (9, 0)).bind fun a32 =>
      bnd (f_X9_put a32 v1 v9 x26 h27) fun x29 h30 =>
      (astD h30 x10 v9 x29).bind fun h34 =>
      f_X9_third_79 n v0 v1 v2 v3 v5 (v9 + 1) h34
set_option maxHeartbeats 4000000 in
set_option maxRecDepth 100000 in
theorem w_X9_third_79 {p : Program} {l : Launch} {e : Env} {s : State} {m : MethodId} {args : Array Value} {below : List Frame} {meth : Method} {c : Code} {D : va_G} {cA : Nat → ClassId} {sz : Nat}  {hh : Hp}  (X : ab_X p s m args meth c cX9_third 10 RX9 D cA sz) (hr : meth.sig.returnType = none)  (n : Nat) : ∀ (v0 : Option Nat) (v1 : Int32) (v2 : Int32) (v3 : UInt64) (v5 : UInt64) (v9 : Int32) (h : Hp) (H : Heap) (locs : List Loc) (ls : Array Slot), ab_H D cA sz h s H locs → lv_has ls 10 [(0, va_rf v0), (1, .int v1), (2, .int v2), (3, .double v3), (5, .double v5), (9, .int v9)] → f_X9_third_79 n v0 v1 v2 v3 v5 v9 h = some ((), hh) → W p l e (ab_rm 6 0 0) s m args below meth c H locs 0 0 (MQ below (ab_Q D cA sz none hh) args s 0 0 (fun q => sz ≤ q)) (F0 m 79 ls []) := by
  induction n with
  | zero => intro v0 v1 v2 v3 v5 v9 h H locs ls S hl hF; cases hF
  | succ n ih =>
    intro v0 v1 v2 v3 v5 v9 h H locs ls S hl hF
    rw [f_X9_third_79] at hF
    refine lv_iload X.1 X.2.1 dX9_third_79 (lv_at hl 5 rfl) ?_
    refine lv_iload_n X.1 X.2.1 dX9_third_81 rfl (lv_at hl 2 rfl) ?_
    refine lv_icmp_ge (tgt := 143) X.1 X.2.1 dX9_third_82 (by decide) (fun c1 => ?_) (fun c1 => ?_)
    · have hF := ab_pos c1 hF
      refine ab_aload_n X dX9_third_143 rfl (lv_at hl 0 rfl) ?_
      refine lv_iload_n X.1 X.2.1 dX9_third_144 rfl (lv_at hl 1 rfl) ?_
      refine lv_dload_n X.1 X.2.1 dX9_third_145 rfl (lv_at hl 3 rfl) ?_
      refine lv_dload X.1 X.2.1 dX9_third_146 (lv_at hl 4 rfl) ?_
      obtain ⟨x2, ev, ne, hF⟩ := ab_fopx hF
      refine lv_dadd X.1 X.2.1 dX9_third_148 ne ?_
      rw [ev]
      refine ab_aload_n X dX9_third_149 rfl (lv_at hl 0 rfl) ?_
      refine ab_getR X S hF fi_9_48 lf_X9_149 dX9_third_150 (fun x3 hF => ?_)
      refine ab_aload_n X dX9_third_153 rfl (lv_at hl 0 rfl) ?_
      refine ab_getR X S hF fi_9_54 lf_X9_167 dX9_third_154 (fun x4 hF => ?_)
      obtain ⟨a8, e9, hF⟩ := bind_out hF
      obtain ⟨x5, h6, e7, hF⟩ := bnd_out hF
      refine ab_callVv X S e9 (c_X9_rates l D cA sz e7) rfl (by decide) mi_X9_rates lm_X9_254 li_yX9_rates ls_yX9_rates (As := [.int v1, .double x2, va_rf x3, va_rf x4]) (rest := []) rfl ⟨by decide, by decide⟩ ⟨(by decide), (by decide)⟩ hl.1 rfl (by simp [ab_cat, ab_cI, ab_cJ, ab_cD, ab_cF]) dX9_third_157 (fun H1 locs1 S => ?_)
      refine lv_iconst (v := 0) X.1 X.2.1 dX9_third_160 (by decide) ?_
      refine lv_istore (lv' := [(9, .int 0), (0, va_rf v0), (1, .int v1), (2, .int v2), (3, .double v3), (5, .double v5)]) X.1 X.2.1 dX9_third_161 hl (by decide) (by simp [ab_cat, ab_cI, ab_cJ, ab_cD, ab_cF]) (fun ls hl => ?_)
      exact w_X9_third_163 X hr  fuelN _ _ _ _ _ _ _ _ _ S (lv_sub hl [1, 2, 3, 5, 0] rfl) hF
    · have hF := ab_neg c1 hF
      refine ab_aload_n X dX9_third_85 rfl (lv_at hl 0 rfl) ?_
      refine ab_getR X S hF fi_9_48 lf_X9_149 dX9_third_86 (fun x10 hF => ?_)
      refine lv_iload X.1 X.2.1 dX9_third_89 (lv_at hl 5 rfl) ?_
      refine ab_aload_n X dX9_third_91 rfl (lv_at hl 0 rfl) ?_
      refine lv_iload_n X.1 X.2.1 dX9_third_92 rfl (lv_at hl 1 rfl) ?_
      refine lv_iload X.1 X.2.1 dX9_third_93 (lv_at hl 5 rfl) ?_
      refine ab_aload_n X dX9_third_95 rfl (lv_at hl 0 rfl) ?_
      refine ab_getR X S hF fi_9_47 lf_X9_146 dX9_third_96 (fun x11 hF => ?_)
      refine lv_iload X.1 X.2.1 dX9_third_99 (lv_at hl 5 rfl) ?_
      refine ab_aldD X S hF dX9_third_101 (fun x12 hF => ?_)
      refine lv_dload X.1 X.2.1 dX9_third_102 (lv_at hl 4 rfl) ?_
      refine lv_ldc2d (v := 4611686018427387904) X.1 X.2.1 X.2.2.2.1 (X.2.2.2.2.1 _ ld_X9_285) dX9_third_104 ?_
      refine ab_aload_n X dX9_third_107 rfl (lv_at hl 0 rfl) ?_
      refine ab_getR X S hF fi_9_53 lf_X9_164 dX9_third_108 (fun x13 hF => ?_)
      refine lv_iload X.1 X.2.1 dX9_third_111 (lv_at hl 5 rfl) ?_
      refine ab_aldD X S hF dX9_third_113 (fun x14 hF => ?_)
      obtain ⟨x15, h16, e17, hF⟩ := bnd_out hF
      refine ab_callSd X S (c_X9_times l D cA sz e17) mi_X9_times lm_X9_211 lt_yX9_times (As := [.double 4611686018427387904, .double x14]) (rest := [.double v5, .double x12, .int v9, .int v1, va_rf v0, .int v9, va_rf x10]) rfl ⟨by decide, by decide⟩ ⟨(by decide), (by decide)⟩ hl.1 rfl (by simp [ab_cat, ab_cI, ab_cJ, ab_cD, ab_cF]) dX9_third_114 (fun H1 locs1 S => ?_)
      refine ab_aload_n X dX9_third_117 rfl (lv_at hl 0 rfl) ?_
      refine ab_getR X S hF fi_9_52 lf_X9_161 dX9_third_118 (fun x18 hF => ?_)
      refine lv_iload X.1 X.2.1 dX9_third_121 (lv_at hl 5 rfl) ?_
      refine ab_aldD X S hF dX9_third_123 (fun x19 hF => ?_)
      obtain ⟨x20, h21, e22, hF⟩ := bnd_out hF
      refine ab_callSd X S (c_X9_less l D cA sz e22) mi_X9_less lm_X9_204 lt_yX9_less (As := [.double x15, .double x19]) (rest := [.double v5, .double x12, .int v9, .int v1, va_rf v0, .int v9, va_rf x10]) rfl ⟨by decide, by decide⟩ ⟨(by decide), (by decide)⟩ hl.1 rfl (by simp [ab_cat, ab_cI, ab_cJ, ab_cD, ab_cF]) dX9_third_124 (fun H1 locs1 S => ?_)
      obtain ⟨x23, h24, e25, hF⟩ := bnd_out hF
      refine ab_callSd X S (c_X9_times l D cA sz e25) mi_X9_times lm_X9_211 lt_yX9_times (As := [.double v5, .double x20]) (rest := [.double x12, .int v9, .int v1, va_rf v0, .int v9, va_rf x10]) rfl ⟨by decide, by decide⟩ ⟨(by decide), (by decide)⟩ hl.1 rfl (by simp [ab_cat, ab_cI, ab_cJ, ab_cD, ab_cF]) dX9_third_127 (fun H1 locs1 S => ?_)
      obtain ⟨x26, h27, e28, hF⟩ := bnd_out hF
      refine ab_callSd X S (c_X9_plus l D cA sz e28) mi_X9_plus lm_X9_214 lt_yX9_plus (As := [.double x12, .double x23]) (rest := [.int v9, .int v1, va_rf v0, .int v9, va_rf x10]) rfl ⟨by decide, by decide⟩ ⟨(by decide), (by decide)⟩ hl.1 rfl (by simp [ab_cat, ab_cI, ab_cJ, ab_cD, ab_cF]) dX9_third_130 (fun H1 locs1 S => ?_)
      obtain ⟨a32, e33, hF⟩ := bind_out hF
      obtain ⟨x29, h30, e31, hF⟩ := bnd_out hF
      refine ab_callVd X S e33 (c_X9_put l D cA sz e31) rfl (by decide) mi_X9_put lm_X9_281 li_yX9_put ls_yX9_put (As := [.int v1, .int v9, .double x26]) (rest := [.int v9, va_rf x10]) rfl ⟨by decide, by decide⟩ ⟨(by decide), (by decide)⟩ hl.1 rfl (by simp [ab_cat, ab_cI, ab_cJ, ab_cD, ab_cF]) dX9_third_133 (fun H1 locs1 S => ?_)
      refine ab_astD X S hF dX9_third_136 (fun h34 H1 locs1 hF S => ?_)
      refine lv_iinc (v := v9 + 1) (lv' := [(9, .int (v9 + 1)), (0, va_rf v0), (1, .int v1), (2, .int v2), (3, .double v3), (5, .double v5)]) X.1 X.2.1 dX9_third_137 hl (k := 5) rfl (by rfl) (by decide) (by simp [ab_cat, ab_cI, ab_cJ, ab_cD, ab_cF]) (fun ls hl => ?_)
      refine lv_goto (tgt := 79) X.1 X.2.1 dX9_third_140 (by decide) ?_
      exact ih _ _ _ _ _ _ _ _ _ _ S (lv_sub hl [1, 2, 3, 4, 5, 0] rfl) hF
def f_X9_third_11  : Nat → Option Nat → Int32 → Int32 → UInt64 → UInt64 → UInt64 → Int32 → Hp → Option (Unit × Hp)
  | 0, _, _, _, _, _, _, _, _ => none
  | n + 1, v0, v1, v2, v3, v5, v7, v9, h => if v2 ≤ v9 then
      (fop (FP.dadd v3 v7)).bind fun x2 =>
      (getR h v0 9 48).bind fun x3 =>
      (getR h v0 9 53).bind fun x4 =>
      (ab_ck h v0 (9, 0)).bind fun a8 =>
      bnd (f_X9_rates a8 v1 x2 x3 x4 h) fun _ h6 =>
      f_X9_third_79 fuelN v0 v1 v2 v3 v5 0 h6
    else
      (getR h v0 9 48).bind fun x10 =>
      (getR h v0 9 47).bind fun x11 =>
      (aldD h x11 v9).bind fun x12 =>
      (getR h v0 9 52).bind fun x13 =>
      (aldD h x13 v9).bind fun x14 =>
      bnd (f_X9_times v7 x14 h) fun x15 h16 =>
      bnd (f_X9_plus x12 x15 h16) fun x18 h19 =>
      (ab_ck h19 v0 (9, 0)).bind fun a24 =>
      bnd (f_X9_put a24 v1 v9 x18 h19) fun x21 h22 =>
      (astD h22 x10 v9 x21).bind fun h26 =>
      f_X9_third_11 n v0 v1 v2 v3 v5 v7 (v9 + 1) h26
set_option maxHeartbeats 4000000 in
set_option maxRecDepth 100000 in
theorem w_X9_third_11 {p : Program} {l : Launch} {e : Env} {s : State} {m : MethodId} {args : Array Value} {below : List Frame} {meth : Method} {c : Code} {D : va_G} {cA : Nat → ClassId} {sz : Nat}  {hh : Hp}  (X : ab_X p s m args meth c cX9_third 10 RX9 D cA sz) (hr : meth.sig.returnType = none)  (n : Nat) : ∀ (v0 : Option Nat) (v1 : Int32) (v2 : Int32) (v3 : UInt64) (v5 : UInt64) (v7 : UInt64) (v9 : Int32) (h : Hp) (H : Heap) (locs : List Loc) (ls : Array Slot), ab_H D cA sz h s H locs → lv_has ls 10 [(0, va_rf v0), (1, .int v1), (2, .int v2), (3, .double v3), (5, .double v5), (7, .double v7), (9, .int v9)] → f_X9_third_11 n v0 v1 v2 v3 v5 v7 v9 h = some ((), hh) → W p l e (ab_rm 6 0 0) s m args below meth c H locs 0 0 (MQ below (ab_Q D cA sz none hh) args s 0 0 (fun q => sz ≤ q)) (F0 m 11 ls []) := by
  induction n with
  | zero => intro v0 v1 v2 v3 v5 v7 v9 h H locs ls S hl hF; cases hF
  | succ n ih =>
    intro v0 v1 v2 v3 v5 v7 v9 h H locs ls S hl hF
    rw [f_X9_third_11] at hF
    refine lv_iload X.1 X.2.1 dX9_third_11 (lv_at hl 6 rfl) ?_
    refine lv_iload_n X.1 X.2.1 dX9_third_13 rfl (lv_at hl 2 rfl) ?_
    refine lv_icmp_ge (tgt := 59) X.1 X.2.1 dX9_third_14 (by decide) (fun c1 => ?_) (fun c1 => ?_)
    · have hF := ab_pos c1 hF
      refine ab_aload_n X dX9_third_59 rfl (lv_at hl 0 rfl) ?_
      refine lv_iload_n X.1 X.2.1 dX9_third_60 rfl (lv_at hl 1 rfl) ?_
      refine lv_dload_n X.1 X.2.1 dX9_third_61 rfl (lv_at hl 3 rfl) ?_
      refine lv_dload X.1 X.2.1 dX9_third_62 (lv_at hl 5 rfl) ?_
      obtain ⟨x2, ev, ne, hF⟩ := ab_fopx hF
      refine lv_dadd X.1 X.2.1 dX9_third_64 ne ?_
      rw [ev]
      refine ab_aload_n X dX9_third_65 rfl (lv_at hl 0 rfl) ?_
      refine ab_getR X S hF fi_9_48 lf_X9_149 dX9_third_66 (fun x3 hF => ?_)
      refine ab_aload_n X dX9_third_69 rfl (lv_at hl 0 rfl) ?_
      refine ab_getR X S hF fi_9_53 lf_X9_164 dX9_third_70 (fun x4 hF => ?_)
      obtain ⟨a8, e9, hF⟩ := bind_out hF
      obtain ⟨x5, h6, e7, hF⟩ := bnd_out hF
      refine ab_callVv X S e9 (c_X9_rates l D cA sz e7) rfl (by decide) mi_X9_rates lm_X9_254 li_yX9_rates ls_yX9_rates (As := [.int v1, .double x2, va_rf x3, va_rf x4]) (rest := []) rfl ⟨by decide, by decide⟩ ⟨(by decide), (by decide)⟩ hl.1 rfl (by simp [ab_cat, ab_cI, ab_cJ, ab_cD, ab_cF]) dX9_third_73 (fun H1 locs1 S => ?_)
      refine lv_iconst (v := 0) X.1 X.2.1 dX9_third_76 (by decide) ?_
      refine lv_istore (lv' := [(9, .int 0), (0, va_rf v0), (1, .int v1), (2, .int v2), (3, .double v3), (5, .double v5), (7, .double v7)]) X.1 X.2.1 dX9_third_77 hl (by decide) (by simp [ab_cat, ab_cI, ab_cJ, ab_cD, ab_cF]) (fun ls hl => ?_)
      exact w_X9_third_79 X hr  fuelN _ _ _ _ _ _ _ _ _ _ S (lv_sub hl [1, 2, 3, 4, 5, 0] rfl) hF
    · have hF := ab_neg c1 hF
      refine ab_aload_n X dX9_third_17 rfl (lv_at hl 0 rfl) ?_
      refine ab_getR X S hF fi_9_48 lf_X9_149 dX9_third_18 (fun x10 hF => ?_)
      refine lv_iload X.1 X.2.1 dX9_third_21 (lv_at hl 6 rfl) ?_
      refine ab_aload_n X dX9_third_23 rfl (lv_at hl 0 rfl) ?_
      refine lv_iload_n X.1 X.2.1 dX9_third_24 rfl (lv_at hl 1 rfl) ?_
      refine lv_iload X.1 X.2.1 dX9_third_25 (lv_at hl 6 rfl) ?_
      refine ab_aload_n X dX9_third_27 rfl (lv_at hl 0 rfl) ?_
      refine ab_getR X S hF fi_9_47 lf_X9_146 dX9_third_28 (fun x11 hF => ?_)
      refine lv_iload X.1 X.2.1 dX9_third_31 (lv_at hl 6 rfl) ?_
      refine ab_aldD X S hF dX9_third_33 (fun x12 hF => ?_)
      refine lv_dload X.1 X.2.1 dX9_third_34 (lv_at hl 5 rfl) ?_
      refine ab_aload_n X dX9_third_36 rfl (lv_at hl 0 rfl) ?_
      refine ab_getR X S hF fi_9_52 lf_X9_161 dX9_third_37 (fun x13 hF => ?_)
      refine lv_iload X.1 X.2.1 dX9_third_40 (lv_at hl 6 rfl) ?_
      refine ab_aldD X S hF dX9_third_42 (fun x14 hF => ?_)
      obtain ⟨x15, h16, e17, hF⟩ := bnd_out hF
      refine ab_callSd X S (c_X9_times l D cA sz e17) mi_X9_times lm_X9_211 lt_yX9_times (As := [.double v7, .double x14]) (rest := [.double x12, .int v9, .int v1, va_rf v0, .int v9, va_rf x10]) rfl ⟨by decide, by decide⟩ ⟨(by decide), (by decide)⟩ hl.1 rfl (by simp [ab_cat, ab_cI, ab_cJ, ab_cD, ab_cF]) dX9_third_43 (fun H1 locs1 S => ?_)
      obtain ⟨x18, h19, e20, hF⟩ := bnd_out hF
      refine ab_callSd X S (c_X9_plus l D cA sz e20) mi_X9_plus lm_X9_214 lt_yX9_plus (As := [.double x12, .double x15]) (rest := [.int v9, .int v1, va_rf v0, .int v9, va_rf x10]) rfl ⟨by decide, by decide⟩ ⟨(by decide), (by decide)⟩ hl.1 rfl (by simp [ab_cat, ab_cI, ab_cJ, ab_cD, ab_cF]) dX9_third_46 (fun H1 locs1 S => ?_)
      obtain ⟨a24, e25, hF⟩ := bind_out hF
      obtain ⟨x21, h22, e23, hF⟩ := bnd_out hF
      refine ab_callVd X S e25 (c_X9_put l D cA sz e23) rfl (by decide) mi_X9_put lm_X9_281 li_yX9_put ls_yX9_put (As := [.int v1, .int v9, .double x18]) (rest := [.int v9, va_rf x10]) rfl ⟨by decide, by decide⟩ ⟨(by decide), (by decide)⟩ hl.1 rfl (by simp [ab_cat, ab_cI, ab_cJ, ab_cD, ab_cF]) dX9_third_49 (fun H1 locs1 S => ?_)
      refine ab_astD X S hF dX9_third_52 (fun h26 H1 locs1 hF S => ?_)
      refine lv_iinc (v := v9 + 1) (lv' := [(9, .int (v9 + 1)), (0, va_rf v0), (1, .int v1), (2, .int v2), (3, .double v3), (5, .double v5), (7, .double v7)]) X.1 X.2.1 dX9_third_53 hl (k := 6) rfl (by rfl) (by decide) (by simp [ab_cat, ab_cI, ab_cJ, ab_cD, ab_cF]) (fun ls hl => ?_)
      refine lv_goto (tgt := 11) X.1 X.2.1 dX9_third_56 (by decide) ?_
      exact ih _ _ _ _ _ _ _ _ _ _ _ S (lv_sub hl [1, 2, 3, 4, 5, 6, 0] rfl) hF
def f_X9_third (this : Nat) (p0 : Int32) (p1 : Int32) (p2 : UInt64) (p3 : UInt64) (h : Hp) : Option (Unit × Hp) :=
  (fop (FP.ddiv p3 4611686018427387904)).bind fun x1 =>
  f_X9_third_11 fuelN (some this) p0 p1 p2 p3 x1 0 h
theorem mi_X9_third : ab_MI yX9_third cX9_third 10 none 4 := ⟨lc_yX9_third, lz_RX9, by decide, by decide, by decide +kernel⟩
set_option maxHeartbeats 4000000 in
set_option maxRecDepth 100000 in
theorem c_X9_third (l : Launch) (D : va_G) (cA : Nat → ClassId) (sz : Nat) {this : Nat} {p0 : Int32} {p1 : Int32} {p2 : UInt64} {p3 : UInt64} {h hh : Hp}  (hF : f_X9_third this p0 p1 p2 p3 h = some ((), hh)) : ab_C l D cA sz yX9_third cX9_third 10 none 6 0 0 [.ref this, .int p0, .int p1, .double p2, .double p3] h none hh := by
  refine Met.ofW (cc := cX9_third) (maxL := 10) (ret := none) (by decide) rfl ?_
  intro p e s m args below meth c s₁ B hml hv
  obtain ⟨rfl, hT, hR⟩ := hv
  have X : ab_X p s m _ meth c cX9_third 10 RX9 D cA sz := (ab_enter B hml hT hR).1
  have S := (ab_enter B hml hT hR).2
  have hr := B.returns
  obtain ⟨ls, hls, hl⟩ := ab_entry m [.ref this, .int p0, .int p1, .double p2, .double p3] 10 (lv := [(0, .ref this), (1, .int p0), (2, .int p1), (3, .double p2), (5, .double p3)]) (by simp [lg_sl, ab_cat, ab_cI, ab_cJ, ab_cD, ab_cF, ab_cA]) (by simp [lv_args, ab_cat, ab_cI, ab_cJ, ab_cD, ab_cF, ab_cA])
  rw [hls]
  have hl : lv_has ls 10 [(0, va_rf (some this)), (1, .int p0), (2, .int p1), (3, .double p2), (5, .double p3)] := hl
  unfold f_X9_third at hF
  show W p l e (ab_rm 6 0 0) s m _ below meth c s.heap [] 0 0 _ _
  refine lv_dload X.1 X.2.1 dX9_third_0 (lv_at hl 4 rfl) ?_
  refine lv_ldc2d (v := 4611686018427387904) X.1 X.2.1 X.2.2.2.1 (X.2.2.2.2.1 _ ld_X9_285) dX9_third_2 ?_
  obtain ⟨x1, ev, ne, hF⟩ := ab_fopx hF
  refine lv_ddiv X.1 X.2.1 dX9_third_5 ne ?_
  rw [ev]
  refine lv_dstore (lv' := [(7, .double x1), (0, va_rf (some this)), (1, .int p0), (2, .int p1), (3, .double p2), (5, .double p3)]) X.1 X.2.1 dX9_third_6 hl (by decide) (by simp [ab_cat, ab_cI, ab_cJ, ab_cD, ab_cF]) (fun ls hl => ?_)
  refine lv_iconst (v := 0) X.1 X.2.1 dX9_third_8 (by decide) ?_
  refine lv_istore (lv' := [(9, .int 0), (7, .double x1), (0, va_rf (some this)), (1, .int p0), (2, .int p1), (3, .double p2), (5, .double p3)]) X.1 X.2.1 dX9_third_9 hl (by decide) (by simp [ab_cat, ab_cI, ab_cJ, ab_cD, ab_cF]) (fun ls hl => ?_)
  exact w_X9_third_11 X hr  fuelN _ _ _ _ _ _ _ _ _ _ _ S (lv_sub hl [2, 3, 4, 5, 6, 1, 0] rfl) hF
def f_X9_fourth_215  : Nat → Option Nat → Int32 → Int32 → UInt64 → Int32 → Hp → Option (Unit × Hp)
  | 0, _, _, _, _, _, _ => none
  | n + 1, v0, v1, v2, v5, v9, h => if v2 ≤ v9 then
      some ((), h)
    else
      (getR h v0 9 49).bind fun x2 =>
      (getR h v0 9 47).bind fun x3 =>
      (aldD h x3 v9).bind fun x4 =>
      (fop (FP.ddiv v5 4618441417868443648)).bind fun x5 =>
      (getR h v0 9 52).bind fun x6 =>
      (aldD h x6 v9).bind fun x7 =>
      (getR h v0 9 53).bind fun x8 =>
      (aldD h x8 v9).bind fun x9 =>
      bnd (f_X9_times 4611686018427387904 x9 h) fun x10 h11 =>
      bnd (f_X9_plus x7 x10 h11) fun x13 h14 =>
      (getR h14 v0 9 54).bind fun x16 =>
      (aldD h14 x16 v9).bind fun x17 =>
      bnd (f_X9_times 4611686018427387904 x17 h14) fun x18 h19 =>
      bnd (f_X9_plus x13 x18 h19) fun x21 h22 =>
      (getR h22 v0 9 55).bind fun x24 =>
      (aldD h22 x24 v9).bind fun x25 =>
      bnd (f_X9_plus x21 x25 h22) fun x26 h27 =>
      bnd (f_X9_times x5 x26 h27) fun x29 h30 =>
      bnd (f_X9_plus x4 x29 h30) fun x32 h33 =>
      (ab_ck h33 v0 (9, 0)).bind fun a38 =>
      bnd (f_X9_put a38 v1 v9 x32 h33) fun x35 h36 =>
      (astD h36 x2 v9 x35).bind fun h40 =>
      f_X9_fourth_215 n v0 v1 v2 v5 (v9 + 1) h40
set_option maxHeartbeats 4000000 in
set_option maxRecDepth 100000 in
theorem w_X9_fourth_215 {p : Program} {l : Launch} {e : Env} {s : State} {m : MethodId} {args : Array Value} {below : List Frame} {meth : Method} {c : Code} {D : va_G} {cA : Nat → ClassId} {sz : Nat}  {hh : Hp}  (X : ab_X p s m args meth c cX9_fourth 10 RX9 D cA sz) (hr : meth.sig.returnType = none)  (n : Nat) : ∀ (v0 : Option Nat) (v1 : Int32) (v2 : Int32) (v5 : UInt64) (v9 : Int32) (h : Hp) (H : Heap) (locs : List Loc) (ls : Array Slot), ab_H D cA sz h s H locs → lv_has ls 10 [(0, va_rf v0), (1, .int v1), (2, .int v2), (5, .double v5), (9, .int v9)] → f_X9_fourth_215 n v0 v1 v2 v5 v9 h = some ((), hh) → W p l e (ab_rm 6 0 0) s m args below meth c H locs 0 0 (MQ below (ab_Q D cA sz none hh) args s 0 0 (fun q => sz ≤ q)) (F0 m 215 ls []) := by
  induction n with
  | zero => intro v0 v1 v2 v5 v9 h H locs ls S hl hF; cases hF
  | succ n ih =>
    intro v0 v1 v2 v5 v9 h H locs ls S hl hF
    rw [f_X9_fourth_215] at hF
    refine lv_iload X.1 X.2.1 dX9_fourth_215 (lv_at hl 4 rfl) ?_
    refine lv_iload_n X.1 X.2.1 dX9_fourth_217 rfl (lv_at hl 2 rfl) ?_
    refine lv_icmp_ge (tgt := 309) X.1 X.2.1 dX9_fourth_218 (by decide) (fun c1 => ?_) (fun c1 => ?_)
    · have hF := ab_pos c1 hF
      exact ab_vret X S hr hF dX9_fourth_309
    · have hF := ab_neg c1 hF
      refine ab_aload_n X dX9_fourth_221 rfl (lv_at hl 0 rfl) ?_
      refine ab_getR X S hF fi_9_49 lf_X9_152 dX9_fourth_222 (fun x2 hF => ?_)
      refine lv_iload X.1 X.2.1 dX9_fourth_225 (lv_at hl 4 rfl) ?_
      refine ab_aload_n X dX9_fourth_227 rfl (lv_at hl 0 rfl) ?_
      refine lv_iload_n X.1 X.2.1 dX9_fourth_228 rfl (lv_at hl 1 rfl) ?_
      refine lv_iload X.1 X.2.1 dX9_fourth_229 (lv_at hl 4 rfl) ?_
      refine ab_aload_n X dX9_fourth_231 rfl (lv_at hl 0 rfl) ?_
      refine ab_getR X S hF fi_9_47 lf_X9_146 dX9_fourth_232 (fun x3 hF => ?_)
      refine lv_iload X.1 X.2.1 dX9_fourth_235 (lv_at hl 4 rfl) ?_
      refine ab_aldD X S hF dX9_fourth_237 (fun x4 hF => ?_)
      refine lv_dload X.1 X.2.1 dX9_fourth_238 (lv_at hl 3 rfl) ?_
      refine lv_ldc2d (v := 4618441417868443648) X.1 X.2.1 X.2.2.2.1 (X.2.2.2.2.1 _ ld_X9_287) dX9_fourth_240 ?_
      obtain ⟨x5, ev, ne, hF⟩ := ab_fopx hF
      refine lv_ddiv X.1 X.2.1 dX9_fourth_243 ne ?_
      rw [ev]
      refine ab_aload_n X dX9_fourth_244 rfl (lv_at hl 0 rfl) ?_
      refine ab_getR X S hF fi_9_52 lf_X9_161 dX9_fourth_245 (fun x6 hF => ?_)
      refine lv_iload X.1 X.2.1 dX9_fourth_248 (lv_at hl 4 rfl) ?_
      refine ab_aldD X S hF dX9_fourth_250 (fun x7 hF => ?_)
      refine lv_ldc2d (v := 4611686018427387904) X.1 X.2.1 X.2.2.2.1 (X.2.2.2.2.1 _ ld_X9_285) dX9_fourth_251 ?_
      refine ab_aload_n X dX9_fourth_254 rfl (lv_at hl 0 rfl) ?_
      refine ab_getR X S hF fi_9_53 lf_X9_164 dX9_fourth_255 (fun x8 hF => ?_)
      refine lv_iload X.1 X.2.1 dX9_fourth_258 (lv_at hl 4 rfl) ?_
      refine ab_aldD X S hF dX9_fourth_260 (fun x9 hF => ?_)
      obtain ⟨x10, h11, e12, hF⟩ := bnd_out hF
      refine ab_callSd X S (c_X9_times l D cA sz e12) mi_X9_times lm_X9_211 lt_yX9_times (As := [.double 4611686018427387904, .double x9]) (rest := [.double x7, .double x5, .double x4, .int v9, .int v1, va_rf v0, .int v9, va_rf x2]) rfl ⟨by decide, by decide⟩ ⟨(by decide), (by decide)⟩ hl.1 rfl (by simp [ab_cat, ab_cI, ab_cJ, ab_cD, ab_cF]) dX9_fourth_261 (fun H1 locs1 S => ?_)
      obtain ⟨x13, h14, e15, hF⟩ := bnd_out hF
      refine ab_callSd X S (c_X9_plus l D cA sz e15) mi_X9_plus lm_X9_214 lt_yX9_plus (As := [.double x7, .double x10]) (rest := [.double x5, .double x4, .int v9, .int v1, va_rf v0, .int v9, va_rf x2]) rfl ⟨by decide, by decide⟩ ⟨(by decide), (by decide)⟩ hl.1 rfl (by simp [ab_cat, ab_cI, ab_cJ, ab_cD, ab_cF]) dX9_fourth_264 (fun H1 locs1 S => ?_)
      refine lv_ldc2d (v := 4611686018427387904) X.1 X.2.1 X.2.2.2.1 (X.2.2.2.2.1 _ ld_X9_285) dX9_fourth_267 ?_
      refine ab_aload_n X dX9_fourth_270 rfl (lv_at hl 0 rfl) ?_
      refine ab_getR X S hF fi_9_54 lf_X9_167 dX9_fourth_271 (fun x16 hF => ?_)
      refine lv_iload X.1 X.2.1 dX9_fourth_274 (lv_at hl 4 rfl) ?_
      refine ab_aldD X S hF dX9_fourth_276 (fun x17 hF => ?_)
      obtain ⟨x18, h19, e20, hF⟩ := bnd_out hF
      refine ab_callSd X S (c_X9_times l D cA sz e20) mi_X9_times lm_X9_211 lt_yX9_times (As := [.double 4611686018427387904, .double x17]) (rest := [.double x13, .double x5, .double x4, .int v9, .int v1, va_rf v0, .int v9, va_rf x2]) rfl ⟨by decide, by decide⟩ ⟨(by decide), (by decide)⟩ hl.1 rfl (by simp [ab_cat, ab_cI, ab_cJ, ab_cD, ab_cF]) dX9_fourth_277 (fun H1 locs1 S => ?_)
      obtain ⟨x21, h22, e23, hF⟩ := bnd_out hF
      refine ab_callSd X S (c_X9_plus l D cA sz e23) mi_X9_plus lm_X9_214 lt_yX9_plus (As := [.double x13, .double x18]) (rest := [.double x5, .double x4, .int v9, .int v1, va_rf v0, .int v9, va_rf x2]) rfl ⟨by decide, by decide⟩ ⟨(by decide), (by decide)⟩ hl.1 rfl (by simp [ab_cat, ab_cI, ab_cJ, ab_cD, ab_cF]) dX9_fourth_280 (fun H1 locs1 S => ?_)
      refine ab_aload_n X dX9_fourth_283 rfl (lv_at hl 0 rfl) ?_
      refine ab_getR X S hF fi_9_55 lf_X9_170 dX9_fourth_284 (fun x24 hF => ?_)
      refine lv_iload X.1 X.2.1 dX9_fourth_287 (lv_at hl 4 rfl) ?_
      refine ab_aldD X S hF dX9_fourth_289 (fun x25 hF => ?_)
      obtain ⟨x26, h27, e28, hF⟩ := bnd_out hF
      refine ab_callSd X S (c_X9_plus l D cA sz e28) mi_X9_plus lm_X9_214 lt_yX9_plus (As := [.double x21, .double x25]) (rest := [.double x5, .double x4, .int v9, .int v1, va_rf v0, .int v9, va_rf x2]) rfl ⟨by decide, by decide⟩ ⟨(by decide), (by decide)⟩ hl.1 rfl (by simp [ab_cat, ab_cI, ab_cJ, ab_cD, ab_cF]) dX9_fourth_290 (fun H1 locs1 S => ?_)
      obtain ⟨x29, h30, e31, hF⟩ := bnd_out hF
      refine ab_callSd X S (c_X9_times l D cA sz e31) mi_X9_times lm_X9_211 lt_yX9_times (As := [.double x5, .double x26]) (rest := [.double x4, .int v9, .int v1, va_rf v0, .int v9, va_rf x2]) rfl ⟨by decide, by decide⟩ ⟨(by decide), (by decide)⟩ hl.1 rfl (by simp [ab_cat, ab_cI, ab_cJ, ab_cD, ab_cF]) dX9_fourth_293 (fun H1 locs1 S => ?_)
      obtain ⟨x32, h33, e34, hF⟩ := bnd_out hF
      refine ab_callSd X S (c_X9_plus l D cA sz e34) mi_X9_plus lm_X9_214 lt_yX9_plus (As := [.double x4, .double x29]) (rest := [.int v9, .int v1, va_rf v0, .int v9, va_rf x2]) rfl ⟨by decide, by decide⟩ ⟨(by decide), (by decide)⟩ hl.1 rfl (by simp [ab_cat, ab_cI, ab_cJ, ab_cD, ab_cF]) dX9_fourth_296 (fun H1 locs1 S => ?_)
      obtain ⟨a38, e39, hF⟩ := bind_out hF
      obtain ⟨x35, h36, e37, hF⟩ := bnd_out hF
      refine ab_callVd X S e39 (c_X9_put l D cA sz e37) rfl (by decide) mi_X9_put lm_X9_281 li_yX9_put ls_yX9_put (As := [.int v1, .int v9, .double x32]) (rest := [.int v9, va_rf x2]) rfl ⟨by decide, by decide⟩ ⟨(by decide), (by decide)⟩ hl.1 rfl (by simp [ab_cat, ab_cI, ab_cJ, ab_cD, ab_cF]) dX9_fourth_299 (fun H1 locs1 S => ?_)
      refine ab_astD X S hF dX9_fourth_302 (fun h40 H1 locs1 hF S => ?_)
      refine lv_iinc (v := v9 + 1) (lv' := [(9, .int (v9 + 1)), (0, va_rf v0), (1, .int v1), (2, .int v2), (5, .double v5)]) X.1 X.2.1 dX9_fourth_303 hl (k := 4) rfl (by rfl) (by decide) (by simp [ab_cat, ab_cI, ab_cJ, ab_cD, ab_cF]) (fun ls hl => ?_)
      refine lv_goto (tgt := 215) X.1 X.2.1 dX9_fourth_306 (by decide) ?_
      exact ih _ _ _ _ _ _ _ _ _ S (lv_sub hl [1, 2, 3, 4, 0] rfl) hF
def f_X9_fourth_147  : Nat → Option Nat → Int32 → Int32 → UInt64 → UInt64 → Int32 → Hp → Option (Unit × Hp)
  | 0, _, _, _, _, _, _, _ => none
  | n + 1, v0, v1, v2, v3, v5, v9, h => if v2 ≤ v9 then
      (fop (FP.dadd v3 v5)).bind fun x2 =>
      (getR h v0 9 48).bind fun x3 =>
      (getR h v0 9 55).bind fun x4 =>
      (ab_ck h v0 (9, 0)).bind fun a8 =>
      bnd (f_X9_rates a8 v1 x2 x3 x4 h) fun _ h6 =>
      f_X9_fourth_215 fuelN v0 v1 v2 v5 0 h6
    else
      (getR h v0 9 48).bind fun x10 =>
      (getR h v0 9 47).bind fun x11 =>
      (aldD h x11 v9).bind fun x12 =>
      (getR h v0 9 54).bind fun x13 =>
      (aldD h x13 v9).bind fun x14 =>
      bnd (f_X9_times v5 x14 h) fun x15 h16 =>
      bnd (f_X9_plus x12 x15 h16) fun x18 h19 =>
      (ab_ck h19 v0 (9, 0)).bind fun a24 =>
      bnd (f_X9_put a24 v1 v9 x18 h19) fun x21 h22 =>
      (astD h22 x10 v9 x21).bind fun h26 =>
      f_X9_fourth_147 n v0 v1 v2 v3 v5 (v9 + 1) h26
set_option maxHeartbeats 4000000 in
set_option maxRecDepth 100000 in
theorem w_X9_fourth_147 {p : Program} {l : Launch} {e : Env} {s : State} {m : MethodId} {args : Array Value} {below : List Frame} {meth : Method} {c : Code} {D : va_G} {cA : Nat → ClassId} {sz : Nat}  {hh : Hp}  (X : ab_X p s m args meth c cX9_fourth 10 RX9 D cA sz) (hr : meth.sig.returnType = none)  (n : Nat) : ∀ (v0 : Option Nat) (v1 : Int32) (v2 : Int32) (v3 : UInt64) (v5 : UInt64) (v9 : Int32) (h : Hp) (H : Heap) (locs : List Loc) (ls : Array Slot), ab_H D cA sz h s H locs → lv_has ls 10 [(0, va_rf v0), (1, .int v1), (2, .int v2), (3, .double v3), (5, .double v5), (9, .int v9)] → f_X9_fourth_147 n v0 v1 v2 v3 v5 v9 h = some ((), hh) → W p l e (ab_rm 6 0 0) s m args below meth c H locs 0 0 (MQ below (ab_Q D cA sz none hh) args s 0 0 (fun q => sz ≤ q)) (F0 m 147 ls []) := by
  induction n with
  | zero => intro v0 v1 v2 v3 v5 v9 h H locs ls S hl hF; cases hF
  | succ n ih =>
    intro v0 v1 v2 v3 v5 v9 h H locs ls S hl hF
    rw [f_X9_fourth_147] at hF
    refine lv_iload X.1 X.2.1 dX9_fourth_147 (lv_at hl 5 rfl) ?_
    refine lv_iload_n X.1 X.2.1 dX9_fourth_149 rfl (lv_at hl 2 rfl) ?_
    refine lv_icmp_ge (tgt := 195) X.1 X.2.1 dX9_fourth_150 (by decide) (fun c1 => ?_) (fun c1 => ?_)
    · have hF := ab_pos c1 hF
      refine ab_aload_n X dX9_fourth_195 rfl (lv_at hl 0 rfl) ?_
      refine lv_iload_n X.1 X.2.1 dX9_fourth_196 rfl (lv_at hl 1 rfl) ?_
      refine lv_dload_n X.1 X.2.1 dX9_fourth_197 rfl (lv_at hl 3 rfl) ?_
      refine lv_dload X.1 X.2.1 dX9_fourth_198 (lv_at hl 4 rfl) ?_
      obtain ⟨x2, ev, ne, hF⟩ := ab_fopx hF
      refine lv_dadd X.1 X.2.1 dX9_fourth_200 ne ?_
      rw [ev]
      refine ab_aload_n X dX9_fourth_201 rfl (lv_at hl 0 rfl) ?_
      refine ab_getR X S hF fi_9_48 lf_X9_149 dX9_fourth_202 (fun x3 hF => ?_)
      refine ab_aload_n X dX9_fourth_205 rfl (lv_at hl 0 rfl) ?_
      refine ab_getR X S hF fi_9_55 lf_X9_170 dX9_fourth_206 (fun x4 hF => ?_)
      obtain ⟨a8, e9, hF⟩ := bind_out hF
      obtain ⟨x5, h6, e7, hF⟩ := bnd_out hF
      refine ab_callVv X S e9 (c_X9_rates l D cA sz e7) rfl (by decide) mi_X9_rates lm_X9_254 li_yX9_rates ls_yX9_rates (As := [.int v1, .double x2, va_rf x3, va_rf x4]) (rest := []) rfl ⟨by decide, by decide⟩ ⟨(by decide), (by decide)⟩ hl.1 rfl (by simp [ab_cat, ab_cI, ab_cJ, ab_cD, ab_cF]) dX9_fourth_209 (fun H1 locs1 S => ?_)
      refine lv_iconst (v := 0) X.1 X.2.1 dX9_fourth_212 (by decide) ?_
      refine lv_istore (lv' := [(9, .int 0), (0, va_rf v0), (1, .int v1), (2, .int v2), (3, .double v3), (5, .double v5)]) X.1 X.2.1 dX9_fourth_213 hl (by decide) (by simp [ab_cat, ab_cI, ab_cJ, ab_cD, ab_cF]) (fun ls hl => ?_)
      exact w_X9_fourth_215 X hr  fuelN _ _ _ _ _ _ _ _ _ S (lv_sub hl [1, 2, 3, 5, 0] rfl) hF
    · have hF := ab_neg c1 hF
      refine ab_aload_n X dX9_fourth_153 rfl (lv_at hl 0 rfl) ?_
      refine ab_getR X S hF fi_9_48 lf_X9_149 dX9_fourth_154 (fun x10 hF => ?_)
      refine lv_iload X.1 X.2.1 dX9_fourth_157 (lv_at hl 5 rfl) ?_
      refine ab_aload_n X dX9_fourth_159 rfl (lv_at hl 0 rfl) ?_
      refine lv_iload_n X.1 X.2.1 dX9_fourth_160 rfl (lv_at hl 1 rfl) ?_
      refine lv_iload X.1 X.2.1 dX9_fourth_161 (lv_at hl 5 rfl) ?_
      refine ab_aload_n X dX9_fourth_163 rfl (lv_at hl 0 rfl) ?_
      refine ab_getR X S hF fi_9_47 lf_X9_146 dX9_fourth_164 (fun x11 hF => ?_)
      refine lv_iload X.1 X.2.1 dX9_fourth_167 (lv_at hl 5 rfl) ?_
      refine ab_aldD X S hF dX9_fourth_169 (fun x12 hF => ?_)
      refine lv_dload X.1 X.2.1 dX9_fourth_170 (lv_at hl 4 rfl) ?_
      refine ab_aload_n X dX9_fourth_172 rfl (lv_at hl 0 rfl) ?_
      refine ab_getR X S hF fi_9_54 lf_X9_167 dX9_fourth_173 (fun x13 hF => ?_)
      refine lv_iload X.1 X.2.1 dX9_fourth_176 (lv_at hl 5 rfl) ?_
      refine ab_aldD X S hF dX9_fourth_178 (fun x14 hF => ?_)
      obtain ⟨x15, h16, e17, hF⟩ := bnd_out hF
      refine ab_callSd X S (c_X9_times l D cA sz e17) mi_X9_times lm_X9_211 lt_yX9_times (As := [.double v5, .double x14]) (rest := [.double x12, .int v9, .int v1, va_rf v0, .int v9, va_rf x10]) rfl ⟨by decide, by decide⟩ ⟨(by decide), (by decide)⟩ hl.1 rfl (by simp [ab_cat, ab_cI, ab_cJ, ab_cD, ab_cF]) dX9_fourth_179 (fun H1 locs1 S => ?_)
      obtain ⟨x18, h19, e20, hF⟩ := bnd_out hF
      refine ab_callSd X S (c_X9_plus l D cA sz e20) mi_X9_plus lm_X9_214 lt_yX9_plus (As := [.double x12, .double x15]) (rest := [.int v9, .int v1, va_rf v0, .int v9, va_rf x10]) rfl ⟨by decide, by decide⟩ ⟨(by decide), (by decide)⟩ hl.1 rfl (by simp [ab_cat, ab_cI, ab_cJ, ab_cD, ab_cF]) dX9_fourth_182 (fun H1 locs1 S => ?_)
      obtain ⟨a24, e25, hF⟩ := bind_out hF
      obtain ⟨x21, h22, e23, hF⟩ := bnd_out hF
      refine ab_callVd X S e25 (c_X9_put l D cA sz e23) rfl (by decide) mi_X9_put lm_X9_281 li_yX9_put ls_yX9_put (As := [.int v1, .int v9, .double x18]) (rest := [.int v9, va_rf x10]) rfl ⟨by decide, by decide⟩ ⟨(by decide), (by decide)⟩ hl.1 rfl (by simp [ab_cat, ab_cI, ab_cJ, ab_cD, ab_cF]) dX9_fourth_185 (fun H1 locs1 S => ?_)
      refine ab_astD X S hF dX9_fourth_188 (fun h26 H1 locs1 hF S => ?_)
      refine lv_iinc (v := v9 + 1) (lv' := [(9, .int (v9 + 1)), (0, va_rf v0), (1, .int v1), (2, .int v2), (3, .double v3), (5, .double v5)]) X.1 X.2.1 dX9_fourth_189 hl (k := 5) rfl (by rfl) (by decide) (by simp [ab_cat, ab_cI, ab_cJ, ab_cD, ab_cF]) (fun ls hl => ?_)
      refine lv_goto (tgt := 147) X.1 X.2.1 dX9_fourth_192 (by decide) ?_
      exact ih _ _ _ _ _ _ _ _ _ _ S (lv_sub hl [1, 2, 3, 4, 5, 0] rfl) hF
def f_X9_fourth_79  : Nat → Option Nat → Int32 → Int32 → UInt64 → UInt64 → UInt64 → Int32 → Hp → Option (Unit × Hp)
  | 0, _, _, _, _, _, _, _, _ => none
  | n + 1, v0, v1, v2, v3, v5, v7, v9, h => if v2 ≤ v9 then
      (fop (FP.dadd v3 v7)).bind fun x2 =>
      (getR h v0 9 48).bind fun x3 =>
      (getR h v0 9 54).bind fun x4 =>
      (ab_ck h v0 (9, 0)).bind fun a8 =>
      bnd (f_X9_rates a8 v1 x2 x3 x4 h) fun _ h6 =>
      f_X9_fourth_147 fuelN v0 v1 v2 v3 v5 0 h6
    else
      (getR h v0 9 48).bind fun x10 =>
      (getR h v0 9 47).bind fun x11 =>
      (aldD h x11 v9).bind fun x12 =>
      (getR h v0 9 53).bind fun x13 =>
      (aldD h x13 v9).bind fun x14 =>
      bnd (f_X9_times v7 x14 h) fun x15 h16 =>
      bnd (f_X9_plus x12 x15 h16) fun x18 h19 =>
      (ab_ck h19 v0 (9, 0)).bind fun a24 =>
      bnd (f_X9_put a24 v1 v9 x18 h19) fun x21 h22 =>
      (astD h22 x10 v9 x21).bind fun h26 =>
      f_X9_fourth_79 n v0 v1 v2 v3 v5 v7 (v9 + 1) h26
set_option maxHeartbeats 4000000 in
set_option maxRecDepth 100000 in
theorem w_X9_fourth_79 {p : Program} {l : Launch} {e : Env} {s : State} {m : MethodId} {args : Array Value} {below : List Frame} {meth : Method} {c : Code} {D : va_G} {cA : Nat → ClassId} {sz : Nat}  {hh : Hp}  (X : ab_X p s m args meth c cX9_fourth 10 RX9 D cA sz) (hr : meth.sig.returnType = none)  (n : Nat) : ∀ (v0 : Option Nat) (v1 : Int32) (v2 : Int32) (v3 : UInt64) (v5 : UInt64) (v7 : UInt64) (v9 : Int32) (h : Hp) (H : Heap) (locs : List Loc) (ls : Array Slot), ab_H D cA sz h s H locs → lv_has ls 10 [(0, va_rf v0), (1, .int v1), (2, .int v2), (3, .double v3), (5, .double v5), (7, .double v7), (9, .int v9)] → f_X9_fourth_79 n v0 v1 v2 v3 v5 v7 v9 h = some ((), hh) → W p l e (ab_rm 6 0 0) s m args below meth c H locs 0 0 (MQ below (ab_Q D cA sz none hh) args s 0 0 (fun q => sz ≤ q)) (F0 m 79 ls []) := by
  induction n with
  | zero => intro v0 v1 v2 v3 v5 v7 v9 h H locs ls S hl hF; cases hF
  | succ n ih =>
    intro v0 v1 v2 v3 v5 v7 v9 h H locs ls S hl hF
    rw [f_X9_fourth_79] at hF
    refine lv_iload X.1 X.2.1 dX9_fourth_79 (lv_at hl 6 rfl) ?_
    refine lv_iload_n X.1 X.2.1 dX9_fourth_81 rfl (lv_at hl 2 rfl) ?_
    refine lv_icmp_ge (tgt := 127) X.1 X.2.1 dX9_fourth_82 (by decide) (fun c1 => ?_) (fun c1 => ?_)
    · have hF := ab_pos c1 hF
      refine ab_aload_n X dX9_fourth_127 rfl (lv_at hl 0 rfl) ?_
      refine lv_iload_n X.1 X.2.1 dX9_fourth_128 rfl (lv_at hl 1 rfl) ?_
      refine lv_dload_n X.1 X.2.1 dX9_fourth_129 rfl (lv_at hl 3 rfl) ?_
      refine lv_dload X.1 X.2.1 dX9_fourth_130 (lv_at hl 5 rfl) ?_
      obtain ⟨x2, ev, ne, hF⟩ := ab_fopx hF
      refine lv_dadd X.1 X.2.1 dX9_fourth_132 ne ?_
      rw [ev]
      refine ab_aload_n X dX9_fourth_133 rfl (lv_at hl 0 rfl) ?_
      refine ab_getR X S hF fi_9_48 lf_X9_149 dX9_fourth_134 (fun x3 hF => ?_)
      refine ab_aload_n X dX9_fourth_137 rfl (lv_at hl 0 rfl) ?_
      refine ab_getR X S hF fi_9_54 lf_X9_167 dX9_fourth_138 (fun x4 hF => ?_)
      obtain ⟨a8, e9, hF⟩ := bind_out hF
      obtain ⟨x5, h6, e7, hF⟩ := bnd_out hF
      refine ab_callVv X S e9 (c_X9_rates l D cA sz e7) rfl (by decide) mi_X9_rates lm_X9_254 li_yX9_rates ls_yX9_rates (As := [.int v1, .double x2, va_rf x3, va_rf x4]) (rest := []) rfl ⟨by decide, by decide⟩ ⟨(by decide), (by decide)⟩ hl.1 rfl (by simp [ab_cat, ab_cI, ab_cJ, ab_cD, ab_cF]) dX9_fourth_141 (fun H1 locs1 S => ?_)
      refine lv_iconst (v := 0) X.1 X.2.1 dX9_fourth_144 (by decide) ?_
      refine lv_istore (lv' := [(9, .int 0), (0, va_rf v0), (1, .int v1), (2, .int v2), (3, .double v3), (5, .double v5), (7, .double v7)]) X.1 X.2.1 dX9_fourth_145 hl (by decide) (by simp [ab_cat, ab_cI, ab_cJ, ab_cD, ab_cF]) (fun ls hl => ?_)
      exact w_X9_fourth_147 X hr  fuelN _ _ _ _ _ _ _ _ _ _ S (lv_sub hl [1, 2, 3, 4, 5, 0] rfl) hF
    · have hF := ab_neg c1 hF
      refine ab_aload_n X dX9_fourth_85 rfl (lv_at hl 0 rfl) ?_
      refine ab_getR X S hF fi_9_48 lf_X9_149 dX9_fourth_86 (fun x10 hF => ?_)
      refine lv_iload X.1 X.2.1 dX9_fourth_89 (lv_at hl 6 rfl) ?_
      refine ab_aload_n X dX9_fourth_91 rfl (lv_at hl 0 rfl) ?_
      refine lv_iload_n X.1 X.2.1 dX9_fourth_92 rfl (lv_at hl 1 rfl) ?_
      refine lv_iload X.1 X.2.1 dX9_fourth_93 (lv_at hl 6 rfl) ?_
      refine ab_aload_n X dX9_fourth_95 rfl (lv_at hl 0 rfl) ?_
      refine ab_getR X S hF fi_9_47 lf_X9_146 dX9_fourth_96 (fun x11 hF => ?_)
      refine lv_iload X.1 X.2.1 dX9_fourth_99 (lv_at hl 6 rfl) ?_
      refine ab_aldD X S hF dX9_fourth_101 (fun x12 hF => ?_)
      refine lv_dload X.1 X.2.1 dX9_fourth_102 (lv_at hl 5 rfl) ?_
      refine ab_aload_n X dX9_fourth_104 rfl (lv_at hl 0 rfl) ?_
      refine ab_getR X S hF fi_9_53 lf_X9_164 dX9_fourth_105 (fun x13 hF => ?_)
      refine lv_iload X.1 X.2.1 dX9_fourth_108 (lv_at hl 6 rfl) ?_
      refine ab_aldD X S hF dX9_fourth_110 (fun x14 hF => ?_)
      obtain ⟨x15, h16, e17, hF⟩ := bnd_out hF
      refine ab_callSd X S (c_X9_times l D cA sz e17) mi_X9_times lm_X9_211 lt_yX9_times (As := [.double v7, .double x14]) (rest := [.double x12, .int v9, .int v1, va_rf v0, .int v9, va_rf x10]) rfl ⟨by decide, by decide⟩ ⟨(by decide), (by decide)⟩ hl.1 rfl (by simp [ab_cat, ab_cI, ab_cJ, ab_cD, ab_cF]) dX9_fourth_111 (fun H1 locs1 S => ?_)
      obtain ⟨x18, h19, e20, hF⟩ := bnd_out hF
      refine ab_callSd X S (c_X9_plus l D cA sz e20) mi_X9_plus lm_X9_214 lt_yX9_plus (As := [.double x12, .double x15]) (rest := [.int v9, .int v1, va_rf v0, .int v9, va_rf x10]) rfl ⟨by decide, by decide⟩ ⟨(by decide), (by decide)⟩ hl.1 rfl (by simp [ab_cat, ab_cI, ab_cJ, ab_cD, ab_cF]) dX9_fourth_114 (fun H1 locs1 S => ?_)
      obtain ⟨a24, e25, hF⟩ := bind_out hF
      obtain ⟨x21, h22, e23, hF⟩ := bnd_out hF
      refine ab_callVd X S e25 (c_X9_put l D cA sz e23) rfl (by decide) mi_X9_put lm_X9_281 li_yX9_put ls_yX9_put (As := [.int v1, .int v9, .double x18]) (rest := [.int v9, va_rf x10]) rfl ⟨by decide, by decide⟩ ⟨(by decide), (by decide)⟩ hl.1 rfl (by simp [ab_cat, ab_cI, ab_cJ, ab_cD, ab_cF]) dX9_fourth_117 (fun H1 locs1 S => ?_)
      refine ab_astD X S hF dX9_fourth_120 (fun h26 H1 locs1 hF S => ?_)
      refine lv_iinc (v := v9 + 1) (lv' := [(9, .int (v9 + 1)), (0, va_rf v0), (1, .int v1), (2, .int v2), (3, .double v3), (5, .double v5), (7, .double v7)]) X.1 X.2.1 dX9_fourth_121 hl (k := 6) rfl (by rfl) (by decide) (by simp [ab_cat, ab_cI, ab_cJ, ab_cD, ab_cF]) (fun ls hl => ?_)
      refine lv_goto (tgt := 79) X.1 X.2.1 dX9_fourth_124 (by decide) ?_
      exact ih _ _ _ _ _ _ _ _ _ _ _ S (lv_sub hl [1, 2, 3, 4, 5, 6, 0] rfl) hF
def f_X9_fourth_11  : Nat → Option Nat → Int32 → Int32 → UInt64 → UInt64 → UInt64 → Int32 → Hp → Option (Unit × Hp)
  | 0, _, _, _, _, _, _, _, _ => none
  | n + 1, v0, v1, v2, v3, v5, v7, v9, h => if v2 ≤ v9 then
      (fop (FP.dadd v3 v7)).bind fun x2 =>
      (getR h v0 9 48).bind fun x3 =>
      (getR h v0 9 53).bind fun x4 =>
      (ab_ck h v0 (9, 0)).bind fun a8 =>
      bnd (f_X9_rates a8 v1 x2 x3 x4 h) fun _ h6 =>
      f_X9_fourth_79 fuelN v0 v1 v2 v3 v5 v7 0 h6
    else
      (getR h v0 9 48).bind fun x10 =>
      (getR h v0 9 47).bind fun x11 =>
      (aldD h x11 v9).bind fun x12 =>
      (getR h v0 9 52).bind fun x13 =>
      (aldD h x13 v9).bind fun x14 =>
      bnd (f_X9_times v7 x14 h) fun x15 h16 =>
      bnd (f_X9_plus x12 x15 h16) fun x18 h19 =>
      (ab_ck h19 v0 (9, 0)).bind fun a24 =>
      bnd (f_X9_put a24 v1 v9 x18 h19) fun x21 h22 =>
      (astD h22 x10 v9 x21).bind fun h26 =>
      f_X9_fourth_11 n v0 v1 v2 v3 v5 v7 (v9 + 1) h26
set_option maxHeartbeats 4000000 in
set_option maxRecDepth 100000 in
theorem w_X9_fourth_11 {p : Program} {l : Launch} {e : Env} {s : State} {m : MethodId} {args : Array Value} {below : List Frame} {meth : Method} {c : Code} {D : va_G} {cA : Nat → ClassId} {sz : Nat}  {hh : Hp}  (X : ab_X p s m args meth c cX9_fourth 10 RX9 D cA sz) (hr : meth.sig.returnType = none)  (n : Nat) : ∀ (v0 : Option Nat) (v1 : Int32) (v2 : Int32) (v3 : UInt64) (v5 : UInt64) (v7 : UInt64) (v9 : Int32) (h : Hp) (H : Heap) (locs : List Loc) (ls : Array Slot), ab_H D cA sz h s H locs → lv_has ls 10 [(0, va_rf v0), (1, .int v1), (2, .int v2), (3, .double v3), (5, .double v5), (7, .double v7), (9, .int v9)] → f_X9_fourth_11 n v0 v1 v2 v3 v5 v7 v9 h = some ((), hh) → W p l e (ab_rm 6 0 0) s m args below meth c H locs 0 0 (MQ below (ab_Q D cA sz none hh) args s 0 0 (fun q => sz ≤ q)) (F0 m 11 ls []) := by
  induction n with
  | zero => intro v0 v1 v2 v3 v5 v7 v9 h H locs ls S hl hF; cases hF
  | succ n ih =>
    intro v0 v1 v2 v3 v5 v7 v9 h H locs ls S hl hF
    rw [f_X9_fourth_11] at hF
    refine lv_iload X.1 X.2.1 dX9_fourth_11 (lv_at hl 6 rfl) ?_
    refine lv_iload_n X.1 X.2.1 dX9_fourth_13 rfl (lv_at hl 2 rfl) ?_
    refine lv_icmp_ge (tgt := 59) X.1 X.2.1 dX9_fourth_14 (by decide) (fun c1 => ?_) (fun c1 => ?_)
    · have hF := ab_pos c1 hF
      refine ab_aload_n X dX9_fourth_59 rfl (lv_at hl 0 rfl) ?_
      refine lv_iload_n X.1 X.2.1 dX9_fourth_60 rfl (lv_at hl 1 rfl) ?_
      refine lv_dload_n X.1 X.2.1 dX9_fourth_61 rfl (lv_at hl 3 rfl) ?_
      refine lv_dload X.1 X.2.1 dX9_fourth_62 (lv_at hl 5 rfl) ?_
      obtain ⟨x2, ev, ne, hF⟩ := ab_fopx hF
      refine lv_dadd X.1 X.2.1 dX9_fourth_64 ne ?_
      rw [ev]
      refine ab_aload_n X dX9_fourth_65 rfl (lv_at hl 0 rfl) ?_
      refine ab_getR X S hF fi_9_48 lf_X9_149 dX9_fourth_66 (fun x3 hF => ?_)
      refine ab_aload_n X dX9_fourth_69 rfl (lv_at hl 0 rfl) ?_
      refine ab_getR X S hF fi_9_53 lf_X9_164 dX9_fourth_70 (fun x4 hF => ?_)
      obtain ⟨a8, e9, hF⟩ := bind_out hF
      obtain ⟨x5, h6, e7, hF⟩ := bnd_out hF
      refine ab_callVv X S e9 (c_X9_rates l D cA sz e7) rfl (by decide) mi_X9_rates lm_X9_254 li_yX9_rates ls_yX9_rates (As := [.int v1, .double x2, va_rf x3, va_rf x4]) (rest := []) rfl ⟨by decide, by decide⟩ ⟨(by decide), (by decide)⟩ hl.1 rfl (by simp [ab_cat, ab_cI, ab_cJ, ab_cD, ab_cF]) dX9_fourth_73 (fun H1 locs1 S => ?_)
      refine lv_iconst (v := 0) X.1 X.2.1 dX9_fourth_76 (by decide) ?_
      refine lv_istore (lv' := [(9, .int 0), (0, va_rf v0), (1, .int v1), (2, .int v2), (3, .double v3), (5, .double v5), (7, .double v7)]) X.1 X.2.1 dX9_fourth_77 hl (by decide) (by simp [ab_cat, ab_cI, ab_cJ, ab_cD, ab_cF]) (fun ls hl => ?_)
      exact w_X9_fourth_79 X hr  fuelN _ _ _ _ _ _ _ _ _ _ _ S (lv_sub hl [1, 2, 3, 4, 5, 6, 0] rfl) hF
    · have hF := ab_neg c1 hF
      refine ab_aload_n X dX9_fourth_17 rfl (lv_at hl 0 rfl) ?_
      refine ab_getR X S hF fi_9_48 lf_X9_149 dX9_fourth_18 (fun x10 hF => ?_)
      refine lv_iload X.1 X.2.1 dX9_fourth_21 (lv_at hl 6 rfl) ?_
      refine ab_aload_n X dX9_fourth_23 rfl (lv_at hl 0 rfl) ?_
      refine lv_iload_n X.1 X.2.1 dX9_fourth_24 rfl (lv_at hl 1 rfl) ?_
      refine lv_iload X.1 X.2.1 dX9_fourth_25 (lv_at hl 6 rfl) ?_
      refine ab_aload_n X dX9_fourth_27 rfl (lv_at hl 0 rfl) ?_
      refine ab_getR X S hF fi_9_47 lf_X9_146 dX9_fourth_28 (fun x11 hF => ?_)
      refine lv_iload X.1 X.2.1 dX9_fourth_31 (lv_at hl 6 rfl) ?_
      refine ab_aldD X S hF dX9_fourth_33 (fun x12 hF => ?_)
      refine lv_dload X.1 X.2.1 dX9_fourth_34 (lv_at hl 5 rfl) ?_
      refine ab_aload_n X dX9_fourth_36 rfl (lv_at hl 0 rfl) ?_
      refine ab_getR X S hF fi_9_52 lf_X9_161 dX9_fourth_37 (fun x13 hF => ?_)
      refine lv_iload X.1 X.2.1 dX9_fourth_40 (lv_at hl 6 rfl) ?_
      refine ab_aldD X S hF dX9_fourth_42 (fun x14 hF => ?_)
      obtain ⟨x15, h16, e17, hF⟩ := bnd_out hF
      refine ab_callSd X S (c_X9_times l D cA sz e17) mi_X9_times lm_X9_211 lt_yX9_times (As := [.double v7, .double x14]) (rest := [.double x12, .int v9, .int v1, va_rf v0, .int v9, va_rf x10]) rfl ⟨by decide, by decide⟩ ⟨(by decide), (by decide)⟩ hl.1 rfl (by simp [ab_cat, ab_cI, ab_cJ, ab_cD, ab_cF]) dX9_fourth_43 (fun H1 locs1 S => ?_)
      obtain ⟨x18, h19, e20, hF⟩ := bnd_out hF
      refine ab_callSd X S (c_X9_plus l D cA sz e20) mi_X9_plus lm_X9_214 lt_yX9_plus (As := [.double x12, .double x15]) (rest := [.int v9, .int v1, va_rf v0, .int v9, va_rf x10]) rfl ⟨by decide, by decide⟩ ⟨(by decide), (by decide)⟩ hl.1 rfl (by simp [ab_cat, ab_cI, ab_cJ, ab_cD, ab_cF]) dX9_fourth_46 (fun H1 locs1 S => ?_)
      obtain ⟨a24, e25, hF⟩ := bind_out hF
      obtain ⟨x21, h22, e23, hF⟩ := bnd_out hF
      refine ab_callVd X S e25 (c_X9_put l D cA sz e23) rfl (by decide) mi_X9_put lm_X9_281 li_yX9_put ls_yX9_put (As := [.int v1, .int v9, .double x18]) (rest := [.int v9, va_rf x10]) rfl ⟨by decide, by decide⟩ ⟨(by decide), (by decide)⟩ hl.1 rfl (by simp [ab_cat, ab_cI, ab_cJ, ab_cD, ab_cF]) dX9_fourth_49 (fun H1 locs1 S => ?_)
      refine ab_astD X S hF dX9_fourth_52 (fun h26 H1 locs1 hF S => ?_)
      refine lv_iinc (v := v9 + 1) (lv' := [(9, .int (v9 + 1)), (0, va_rf v0), (1, .int v1), (2, .int v2), (3, .double v3), (5, .double v5), (7, .double v7)]) X.1 X.2.1 dX9_fourth_53 hl (k := 6) rfl (by rfl) (by decide) (by simp [ab_cat, ab_cI, ab_cJ, ab_cD, ab_cF]) (fun ls hl => ?_)
      refine lv_goto (tgt := 11) X.1 X.2.1 dX9_fourth_56 (by decide) ?_
      exact ih _ _ _ _ _ _ _ _ _ _ _ S (lv_sub hl [1, 2, 3, 4, 5, 6, 0] rfl) hF
def f_X9_fourth (this : Nat) (p0 : Int32) (p1 : Int32) (p2 : UInt64) (p3 : UInt64) (h : Hp) : Option (Unit × Hp) :=
  (fop (FP.ddiv p3 4611686018427387904)).bind fun x1 =>
  f_X9_fourth_11 fuelN (some this) p0 p1 p2 p3 x1 0 h
theorem mi_X9_fourth : ab_MI yX9_fourth cX9_fourth 10 none 4 := ⟨lc_yX9_fourth, lz_RX9, by decide, by decide, by decide +kernel⟩
set_option maxHeartbeats 4000000 in
set_option maxRecDepth 100000 in
theorem c_X9_fourth (l : Launch) (D : va_G) (cA : Nat → ClassId) (sz : Nat) {this : Nat} {p0 : Int32} {p1 : Int32} {p2 : UInt64} {p3 : UInt64} {h hh : Hp}  (hF : f_X9_fourth this p0 p1 p2 p3 h = some ((), hh)) : ab_C l D cA sz yX9_fourth cX9_fourth 10 none 6 0 0 [.ref this, .int p0, .int p1, .double p2, .double p3] h none hh := by
  refine Met.ofW (cc := cX9_fourth) (maxL := 10) (ret := none) (by decide) rfl ?_
  intro p e s m args below meth c s₁ B hml hv
  obtain ⟨rfl, hT, hR⟩ := hv
  have X : ab_X p s m _ meth c cX9_fourth 10 RX9 D cA sz := (ab_enter B hml hT hR).1
  have S := (ab_enter B hml hT hR).2
  have hr := B.returns
  obtain ⟨ls, hls, hl⟩ := ab_entry m [.ref this, .int p0, .int p1, .double p2, .double p3] 10 (lv := [(0, .ref this), (1, .int p0), (2, .int p1), (3, .double p2), (5, .double p3)]) (by simp [lg_sl, ab_cat, ab_cI, ab_cJ, ab_cD, ab_cF, ab_cA]) (by simp [lv_args, ab_cat, ab_cI, ab_cJ, ab_cD, ab_cF, ab_cA])
  rw [hls]
  have hl : lv_has ls 10 [(0, va_rf (some this)), (1, .int p0), (2, .int p1), (3, .double p2), (5, .double p3)] := hl
  unfold f_X9_fourth at hF
  show W p l e (ab_rm 6 0 0) s m _ below meth c s.heap [] 0 0 _ _
  refine lv_dload X.1 X.2.1 dX9_fourth_0 (lv_at hl 4 rfl) ?_
  refine lv_ldc2d (v := 4611686018427387904) X.1 X.2.1 X.2.2.2.1 (X.2.2.2.2.1 _ ld_X9_285) dX9_fourth_2 ?_
  obtain ⟨x1, ev, ne, hF⟩ := ab_fopx hF
  refine lv_ddiv X.1 X.2.1 dX9_fourth_5 ne ?_
  rw [ev]
  refine lv_dstore (lv' := [(7, .double x1), (0, va_rf (some this)), (1, .int p0), (2, .int p1), (3, .double p2), (5, .double p3)]) X.1 X.2.1 dX9_fourth_6 hl (by decide) (by simp [ab_cat, ab_cI, ab_cJ, ab_cD, ab_cF]) (fun ls hl => ?_)
  refine lv_iconst (v := 0) X.1 X.2.1 dX9_fourth_8 (by decide) ?_
  refine lv_istore (lv' := [(9, .int 0), (7, .double x1), (0, va_rf (some this)), (1, .int p0), (2, .int p1), (3, .double p2), (5, .double p3)]) X.1 X.2.1 dX9_fourth_9 hl (by decide) (by simp [ab_cat, ab_cI, ab_cJ, ab_cD, ab_cF]) (fun ls hl => ?_)
  exact w_X9_fourth_11 X hr  fuelN _ _ _ _ _ _ _ _ _ _ _ S (lv_sub hl [2, 3, 4, 5, 6, 1, 0] rfl) hF
