def f_X9_plain_3  : Nat → Option Nat → Int32 → Int32 → UInt64 → Int32 → Hp → Option (Unit × Hp)
  | 0, _, _, _, _, _, _ => none
  | n + 1, v0, v1, v2, v3, v5, h => if v2 ≤ v5 then
      some ((), h)
    else
      (getR h v0 9 49).bind fun x2 =>
      (getR h v0 9 47).bind fun x3 =>
      (aldD h x3 v5).bind fun x4 =>
      (getR h v0 9 52).bind fun x5 =>
      (aldD h x5 v5).bind fun x6 =>
      bnd (f_X9_times v3 x6 h) fun x7 h8 =>
      bnd (f_X9_plus x4 x7 h8) fun x10 h11 =>
      (ab_ck h11 v0 (9, 0)).bind fun a16 =>
      bnd (f_X9_put a16 v1 v5 x10 h11) fun x13 h14 =>
      (astD h14 x2 v5 x13).bind fun h18 =>
      f_X9_plain_3 n v0 v1 v2 v3 (v5 + 1) h18
set_option maxHeartbeats 4000000 in
set_option maxRecDepth 100000 in
theorem w_X9_plain_3 {p : Program} {l : Launch} {e : Env} {s : State} {m : MethodId} {args : Array Value} {below : List Frame} {meth : Method} {c : Code} {D : va_G} {cA : Nat → ClassId} {sz : Nat}  {hh : Hp}  (X : ab_X p s m args meth c cX9_plain 6 RX9 D cA sz) (hr : meth.sig.returnType = none)  (n : Nat) : ∀ (v0 : Option Nat) (v1 : Int32) (v2 : Int32) (v3 : UInt64) (v5 : Int32) (h : Hp) (H : Heap) (locs : List Loc) (ls : Array Slot), ab_H D cA sz h s H locs → lv_has ls 6 [(0, va_rf v0), (1, .int v1), (2, .int v2), (3, .double v3), (5, .int v5)] → f_X9_plain_3 n v0 v1 v2 v3 v5 h = some ((), hh) → W p l e (ab_rm 2 0 0) s m args below meth c H locs 0 0 (MQ below (ab_Q D cA sz none hh) args s 0 0 (fun q => sz ≤ q)) (F0 m 3 ls []) := by
  induction n with
  | zero => intro v0 v1 v2 v3 v5 h H locs ls S hl hF; cases hF
  | succ n ih =>
    intro v0 v1 v2 v3 v5 h H locs ls S hl hF
    rw [f_X9_plain_3] at hF
    refine lv_iload X.1 X.2.1 dX9_plain_3 (lv_at hl 4 rfl) ?_
    refine lv_iload_n X.1 X.2.1 dX9_plain_5 rfl (lv_at hl 2 rfl) ?_
    refine lv_icmp_ge (tgt := 50) X.1 X.2.1 dX9_plain_6 (by decide) (fun c1 => ?_) (fun c1 => ?_)
    · have hF := ab_pos c1 hF
      exact ab_vret X S hr hF dX9_plain_50
    · have hF := ab_neg c1 hF
      refine ab_aload_n X dX9_plain_9 rfl (lv_at hl 0 rfl) ?_
      refine ab_getR X S hF fi_9_49 lf_X9_152 dX9_plain_10 (fun x2 hF => ?_)
      refine lv_iload X.1 X.2.1 dX9_plain_13 (lv_at hl 4 rfl) ?_
      refine ab_aload_n X dX9_plain_15 rfl (lv_at hl 0 rfl) ?_
      refine lv_iload_n X.1 X.2.1 dX9_plain_16 rfl (lv_at hl 1 rfl) ?_
      refine lv_iload X.1 X.2.1 dX9_plain_17 (lv_at hl 4 rfl) ?_
      refine ab_aload_n X dX9_plain_19 rfl (lv_at hl 0 rfl) ?_
      refine ab_getR X S hF fi_9_47 lf_X9_146 dX9_plain_20 (fun x3 hF => ?_)
      refine lv_iload X.1 X.2.1 dX9_plain_23 (lv_at hl 4 rfl) ?_
      refine ab_aldD X S hF dX9_plain_25 (fun x4 hF => ?_)
      refine lv_dload_n X.1 X.2.1 dX9_plain_26 rfl (lv_at hl 3 rfl) ?_
      refine ab_aload_n X dX9_plain_27 rfl (lv_at hl 0 rfl) ?_
      refine ab_getR X S hF fi_9_52 lf_X9_161 dX9_plain_28 (fun x5 hF => ?_)
      refine lv_iload X.1 X.2.1 dX9_plain_31 (lv_at hl 4 rfl) ?_
      refine ab_aldD X S hF dX9_plain_33 (fun x6 hF => ?_)
      obtain ⟨x7, h8, e9, hF⟩ := bnd_out hF
      refine ab_callSd X S (c_X9_times l D cA sz e9) mi_X9_times lm_X9_211 lt_yX9_times (As := [.double v3, .double x6]) (rest := [.double x4, .int v5, .int v1, va_rf v0, .int v5, va_rf x2]) rfl ⟨by decide, by decide⟩ ⟨by decide, by decide⟩ hl.1 rfl (by simp [ab_cat, ab_cI, ab_cJ, ab_cD, ab_cF]) dX9_plain_34 (fun H1 locs1 S => ?_)
      obtain ⟨x10, h11, e12, hF⟩ := bnd_out hF
      refine ab_callSd X S (c_X9_plus l D cA sz e12) mi_X9_plus lm_X9_214 lt_yX9_plus (As := [.double x4, .double x7]) (rest := [.int v5, .int v1, va_rf v0, .int v5, va_rf x2]) rfl ⟨by decide, by decide⟩ ⟨by decide, by decide⟩ hl.1 rfl (by simp [ab_cat, ab_cI, ab_cJ, ab_cD, ab_cF]) dX9_plain_37 (fun H1 locs1 S => ?_)
      obtain ⟨a16, e17, hF⟩ := bind_out hF
      obtain ⟨x13, h14, e15, hF⟩ := bnd_out hF
      refine ab_callVd X S e17 (c_X9_put l D cA sz e15) rfl (by decide) mi_X9_put lm_X9_281 li_yX9_put ls_yX9_put (As := [.int v1, .int v5, .double x10]) (rest := [.int v5, va_rf x2]) rfl ⟨by decide, by decide⟩ ⟨by decide, by decide⟩ hl.1 rfl (by simp [ab_cat, ab_cI, ab_cJ, ab_cD, ab_cF]) dX9_plain_40 (fun H1 locs1 S => ?_)
      refine ab_astD X S hF dX9_plain_43 (fun h18 H1 locs1 hF S => ?_)
      refine lv_iinc (v := v5 + 1) (lv' := [(5, .int (v5 + 1)), (0, va_rf v0), (1, .int v1), (2, .int v2), (3, .double v3)]) X.1 X.2.1 dX9_plain_44 hl (k := 4) rfl (by rfl) (by decide) (by simp [ab_cat, ab_cI, ab_cJ, ab_cD, ab_cF]) (fun ls hl => ?_)
      refine lv_goto (tgt := 3) X.1 X.2.1 dX9_plain_47 (by decide) ?_
      exact ih _ _ _ _ _ _ _ _ _ S (lv_sub hl [1, 2, 3, 4, 0] rfl) hF
def f_X9_plain (this : Nat) (p0 : Int32) (p1 : Int32) (p2 : UInt64) (h : Hp) : Option (Unit × Hp) :=
  f_X9_plain_3 fuelN (some this) p0 p1 p2 0 h
theorem mi_X9_plain : ab_MI yX9_plain cX9_plain 6 none 3 := ⟨lc_yX9_plain, lz_RX9, by decide, by decide, by decide +kernel⟩
set_option maxHeartbeats 4000000 in
set_option maxRecDepth 100000 in
theorem c_X9_plain (l : Launch) (D : va_G) (cA : Nat → ClassId) (sz : Nat) {this : Nat} {p0 : Int32} {p1 : Int32} {p2 : UInt64} {h hh : Hp}  (hF : f_X9_plain this p0 p1 p2 h = some ((), hh)) : ab_C l D cA sz yX9_plain cX9_plain 6 none 2 0 0 [.ref this, .int p0, .int p1, .double p2] h none hh := by
  refine Met.ofW (cc := cX9_plain) (maxL := 6) (ret := none) (by decide) rfl ?_
  intro p e s m args below meth c s₁ B hml hv
  obtain ⟨rfl, hT, hR⟩ := hv
  have X : ab_X p s m _ meth c cX9_plain 6 RX9 D cA sz := (ab_enter B hml hT hR).1
  have S := (ab_enter B hml hT hR).2
  have hr := B.returns
  obtain ⟨ls, hls, hl⟩ := ab_entry m [.ref this, .int p0, .int p1, .double p2] 6 (lv := [(0, .ref this), (1, .int p0), (2, .int p1), (3, .double p2)]) (by simp [lg_sl, ab_cat, ab_cI, ab_cJ, ab_cD, ab_cF, ab_cA]) (by simp [lv_args, ab_cat, ab_cI, ab_cJ, ab_cD, ab_cF, ab_cA])
  rw [hls]
  have hl : lv_has ls 6 [(0, va_rf (some this)), (1, .int p0), (2, .int p1), (3, .double p2)] := hl
  unfold f_X9_plain at hF
  show W p l e (ab_rm 2 0 0) s m _ below meth c s.heap [] 0 0 _ _
  refine lv_iconst (v := 0) X.1 X.2.1 dX9_plain_0 (by decide) ?_
  refine lv_istore (lv' := [(5, .int 0), (0, va_rf (some this)), (1, .int p0), (2, .int p1), (3, .double p2)]) X.1 X.2.1 dX9_plain_1 hl (by decide) (by simp [ab_cat, ab_cI, ab_cJ, ab_cD, ab_cF]) (fun ls hl => ?_)
  exact w_X9_plain_3 X hr  fuelN _ _ _ _ _ _ _ _ _ S (lv_sub hl [1, 2, 3, 4, 0] rfl) hF
def f_X9_byMiddle_79  : Nat → Option Nat → Int32 → Int32 → UInt64 → Int32 → Hp → Option (Unit × Hp)
  | 0, _, _, _, _, _, _ => none
  | n + 1, v0, v1, v2, v5, v9, h => if v2 ≤ v9 then
      some ((), h)
    else
      (getR h v0 9 49).bind fun x2 =>
      (getR h v0 9 47).bind fun x3 =>
      (aldD h x3 v9).bind fun x4 =>
      (getR h v0 9 53).bind fun x5 =>
      (aldD h x5 v9).bind fun x6 =>
      bnd (f_X9_times v5 x6 h) fun x7 h8 =>
      bnd (f_X9_plus x4 x7 h8) fun x10 h11 =>
      (ab_ck h11 v0 (9, 0)).bind fun a16 =>
      bnd (f_X9_put a16 v1 v9 x10 h11) fun x13 h14 =>
      (astD h14 x2 v9 x13).bind fun h18 =>
      f_X9_byMiddle_79 n v0 v1 v2 v5 (v9 + 1) h18
set_option maxHeartbeats 4000000 in
set_option maxRecDepth 100000 in
theorem w_X9_byMiddle_79 {p : Program} {l : Launch} {e : Env} {s : State} {m : MethodId} {args : Array Value} {below : List Frame} {meth : Method} {c : Code} {D : va_G} {cA : Nat → ClassId} {sz : Nat}  {hh : Hp}  (X : ab_X p s m args meth c cX9_byMiddle 10 RX9 D cA sz) (hr : meth.sig.returnType = none)  (n : Nat) : ∀ (v0 : Option Nat) (v1 : Int32) (v2 : Int32) (v5 : UInt64) (v9 : Int32) (h : Hp) (H : Heap) (locs : List Loc) (ls : Array Slot), ab_H D cA sz h s H locs → lv_has ls 10 [(0, va_rf v0), (1, .int v1), (2, .int v2), (5, .double v5), (9, .int v9)] → f_X9_byMiddle_79 n v0 v1 v2 v5 v9 h = some ((), hh) → W p l e (ab_rm 6 0 0) s m args below meth c H locs 0 0 (MQ below (ab_Q D cA sz none hh) args s 0 0 (fun q => sz ≤ q)) (F0 m 79 ls []) := by
  induction n with
  | zero => intro v0 v1 v2 v5 v9 h H locs ls S hl hF; cases hF
  | succ n ih =>
    intro v0 v1 v2 v5 v9 h H locs ls S hl hF
    rw [f_X9_byMiddle_79] at hF
    refine lv_iload X.1 X.2.1 dX9_byMiddle_79 (lv_at hl 4 rfl) ?_
    refine lv_iload_n X.1 X.2.1 dX9_byMiddle_81 rfl (lv_at hl 2 rfl) ?_
    refine lv_icmp_ge (tgt := 127) X.1 X.2.1 dX9_byMiddle_82 (by decide) (fun c1 => ?_) (fun c1 => ?_)
    · have hF := ab_pos c1 hF
      exact ab_vret X S hr hF dX9_byMiddle_127
    · have hF := ab_neg c1 hF
      refine ab_aload_n X dX9_byMiddle_85 rfl (lv_at hl 0 rfl) ?_
      refine ab_getR X S hF fi_9_49 lf_X9_152 dX9_byMiddle_86 (fun x2 hF => ?_)
      refine lv_iload X.1 X.2.1 dX9_byMiddle_89 (lv_at hl 4 rfl) ?_
      refine ab_aload_n X dX9_byMiddle_91 rfl (lv_at hl 0 rfl) ?_
      refine lv_iload_n X.1 X.2.1 dX9_byMiddle_92 rfl (lv_at hl 1 rfl) ?_
      refine lv_iload X.1 X.2.1 dX9_byMiddle_93 (lv_at hl 4 rfl) ?_
      refine ab_aload_n X dX9_byMiddle_95 rfl (lv_at hl 0 rfl) ?_
      refine ab_getR X S hF fi_9_47 lf_X9_146 dX9_byMiddle_96 (fun x3 hF => ?_)
      refine lv_iload X.1 X.2.1 dX9_byMiddle_99 (lv_at hl 4 rfl) ?_
      refine ab_aldD X S hF dX9_byMiddle_101 (fun x4 hF => ?_)
      refine lv_dload X.1 X.2.1 dX9_byMiddle_102 (lv_at hl 3 rfl) ?_
      refine ab_aload_n X dX9_byMiddle_104 rfl (lv_at hl 0 rfl) ?_
      refine ab_getR X S hF fi_9_53 lf_X9_164 dX9_byMiddle_105 (fun x5 hF => ?_)
      refine lv_iload X.1 X.2.1 dX9_byMiddle_108 (lv_at hl 4 rfl) ?_
      refine ab_aldD X S hF dX9_byMiddle_110 (fun x6 hF => ?_)
      obtain ⟨x7, h8, e9, hF⟩ := bnd_out hF
      refine ab_callSd X S (c_X9_times l D cA sz e9) mi_X9_times lm_X9_211 lt_yX9_times (As := [.double v5, .double x6]) (rest := [.double x4, .int v9, .int v1, va_rf v0, .int v9, va_rf x2]) rfl ⟨by decide, by decide⟩ ⟨by decide, by decide⟩ hl.1 rfl (by simp [ab_cat, ab_cI, ab_cJ, ab_cD, ab_cF]) dX9_byMiddle_111 (fun H1 locs1 S => ?_)
      obtain ⟨x10, h11, e12, hF⟩ := bnd_out hF
      refine ab_callSd X S (c_X9_plus l D cA sz e12) mi_X9_plus lm_X9_214 lt_yX9_plus (As := [.double x4, .double x7]) (rest := [.int v9, .int v1, va_rf v0, .int v9, va_rf x2]) rfl ⟨by decide, by decide⟩ ⟨by decide, by decide⟩ hl.1 rfl (by simp [ab_cat, ab_cI, ab_cJ, ab_cD, ab_cF]) dX9_byMiddle_114 (fun H1 locs1 S => ?_)
      obtain ⟨a16, e17, hF⟩ := bind_out hF
      obtain ⟨x13, h14, e15, hF⟩ := bnd_out hF
      refine ab_callVd X S e17 (c_X9_put l D cA sz e15) rfl (by decide) mi_X9_put lm_X9_281 li_yX9_put ls_yX9_put (As := [.int v1, .int v9, .double x10]) (rest := [.int v9, va_rf x2]) rfl ⟨by decide, by decide⟩ ⟨by decide, by decide⟩ hl.1 rfl (by simp [ab_cat, ab_cI, ab_cJ, ab_cD, ab_cF]) dX9_byMiddle_117 (fun H1 locs1 S => ?_)
      refine ab_astD X S hF dX9_byMiddle_120 (fun h18 H1 locs1 hF S => ?_)
      refine lv_iinc (v := v9 + 1) (lv' := [(9, .int (v9 + 1)), (0, va_rf v0), (1, .int v1), (2, .int v2), (5, .double v5)]) X.1 X.2.1 dX9_byMiddle_121 hl (k := 4) rfl (by rfl) (by decide) (by simp [ab_cat, ab_cI, ab_cJ, ab_cD, ab_cF]) (fun ls hl => ?_)
      refine lv_goto (tgt := 79) X.1 X.2.1 dX9_byMiddle_124 (by decide) ?_
      exact ih _ _ _ _ _ _ _ _ _ S (lv_sub hl [1, 2, 3, 4, 0] rfl) hF
def f_X9_byMiddle_11  : Nat → Option Nat → Int32 → Int32 → UInt64 → UInt64 → UInt64 → Int32 → Hp → Option (Unit × Hp)
  | 0, _, _, _, _, _, _, _, _ => none
  | n + 1, v0, v1, v2, v3, v5, v7, v9, h => if v2 ≤ v9 then
      (fop (FP.dadd v3 v7)).bind fun x2 =>
      (getR h v0 9 48).bind fun x3 =>
      (getR h v0 9 53).bind fun x4 =>
      (ab_ck h v0 (9, 0)).bind fun a8 =>
      bnd (f_X9_rates a8 v1 x2 x3 x4 h) fun _ h6 =>
      f_X9_byMiddle_79 fuelN v0 v1 v2 v5 0 h6
    else
      (getR h v0 9 48).bind fun x10 =>
      (getR h v0 9 47).bind fun x11 =>
      (aldD h x11 v9).bind fun x12 =>
      (getR h v0 9 52).bind fun x13 =>
      (aldD h x13 v9).bind fun x14 =>
      bnd (f_X9_times v7 x14 h) fun x15 h16 =>
      bnd (f_X9_plus x12 x15 h16) fun x18 h19 =>
      (ab_ck h19 v0 (9, 0)).bind fun a24 =>
      bnd (f_X9_put a24 v1 v9 x18 h19) fun x21 h22 =>
      (astD h22 x10 v9 x21).bind fun h26 =>
      f_X9_byMiddle_11 n v0 v1 v2 v3 v5 v7 (v9 + 1) h26
set_option maxHeartbeats 4000000 in
set_option maxRecDepth 100000 in
theorem w_X9_byMiddle_11 {p : Program} {l : Launch} {e : Env} {s : State} {m : MethodId} {args : Array Value} {below : List Frame} {meth : Method} {c : Code} {D : va_G} {cA : Nat → ClassId} {sz : Nat}  {hh : Hp}  (X : ab_X p s m args meth c cX9_byMiddle 10 RX9 D cA sz) (hr : meth.sig.returnType = none)  (n : Nat) : ∀ (v0 : Option Nat) (v1 : Int32) (v2 : Int32) (v3 : UInt64) (v5 : UInt64) (v7 : UInt64) (v9 : Int32) (h : Hp) (H : Heap) (locs : List Loc) (ls : Array Slot), ab_H D cA sz h s H locs → lv_has ls 10 [(0, va_rf v0), (1, .int v1), (2, .int v2), (3, .double v3), (5, .double v5), (7, .double v7), (9, .int v9)] → f_X9_byMiddle_11 n v0 v1 v2 v3 v5 v7 v9 h = some ((), hh) → W p l e (ab_rm 6 0 0) s m args below meth c H locs 0 0 (MQ below (ab_Q D cA sz none hh) args s 0 0 (fun q => sz ≤ q)) (F0 m 11 ls []) := by
  induction n with
  | zero => intro v0 v1 v2 v3 v5 v7 v9 h H locs ls S hl hF; cases hF
  | succ n ih =>
    intro v0 v1 v2 v3 v5 v7 v9 h H locs ls S hl hF
    rw [f_X9_byMiddle_11] at hF
    refine lv_iload X.1 X.2.1 dX9_byMiddle_11 (lv_at hl 6 rfl) ?_
    refine lv_iload_n X.1 X.2.1 dX9_byMiddle_13 rfl (lv_at hl 2 rfl) ?_
    refine lv_icmp_ge (tgt := 59) X.1 X.2.1 dX9_byMiddle_14 (by decide) (fun c1 => ?_) (fun c1 => ?_)
    · have hF := ab_pos c1 hF
      refine ab_aload_n X dX9_byMiddle_59 rfl (lv_at hl 0 rfl) ?_
      refine lv_iload_n X.1 X.2.1 dX9_byMiddle_60 rfl (lv_at hl 1 rfl) ?_
      refine lv_dload_n X.1 X.2.1 dX9_byMiddle_61 rfl (lv_at hl 3 rfl) ?_
      refine lv_dload X.1 X.2.1 dX9_byMiddle_62 (lv_at hl 5 rfl) ?_
      obtain ⟨x2, ev, ne, hF⟩ := ab_fopx hF
      refine lv_dadd X.1 X.2.1 dX9_byMiddle_64 ne ?_
      rw [ev]
      refine ab_aload_n X dX9_byMiddle_65 rfl (lv_at hl 0 rfl) ?_
      refine ab_getR X S hF fi_9_48 lf_X9_149 dX9_byMiddle_66 (fun x3 hF => ?_)
      refine ab_aload_n X dX9_byMiddle_69 rfl (lv_at hl 0 rfl) ?_
      refine ab_getR X S hF fi_9_53 lf_X9_164 dX9_byMiddle_70 (fun x4 hF => ?_)
      obtain ⟨a8, e9, hF⟩ := bind_out hF
      obtain ⟨x5, h6, e7, hF⟩ := bnd_out hF
      refine ab_callVv X S e9 (c_X9_rates l D cA sz e7) rfl (by decide) mi_X9_rates lm_X9_254 li_yX9_rates ls_yX9_rates (As := [.int v1, .double x2, va_rf x3, va_rf x4]) (rest := []) rfl ⟨by decide, by decide⟩ ⟨by decide, by decide⟩ hl.1 rfl (by simp [ab_cat, ab_cI, ab_cJ, ab_cD, ab_cF]) dX9_byMiddle_73 (fun H1 locs1 S => ?_)
      refine lv_iconst (v := 0) X.1 X.2.1 dX9_byMiddle_76 (by decide) ?_
      refine lv_istore (lv' := [(9, .int 0), (0, va_rf v0), (1, .int v1), (2, .int v2), (3, .double v3), (5, .double v5), (7, .double v7)]) X.1 X.2.1 dX9_byMiddle_77 hl (by decide) (by simp [ab_cat, ab_cI, ab_cJ, ab_cD, ab_cF]) (fun ls hl => ?_)
      exact w_X9_byMiddle_79 X hr  fuelN _ _ _ _ _ _ _ _ _ S (lv_sub hl [1, 2, 3, 5, 0] rfl) hF
    · have hF := ab_neg c1 hF
      refine ab_aload_n X dX9_byMiddle_17 rfl (lv_at hl 0 rfl) ?_
      refine ab_getR X S hF fi_9_48 lf_X9_149 dX9_byMiddle_18 (fun x10 hF => ?_)
      refine lv_iload X.1 X.2.1 dX9_byMiddle_21 (lv_at hl 6 rfl) ?_
      refine ab_aload_n X dX9_byMiddle_23 rfl (lv_at hl 0 rfl) ?_
      refine lv_iload_n X.1 X.2.1 dX9_byMiddle_24 rfl (lv_at hl 1 rfl) ?_
      refine lv_iload X.1 X.2.1 dX9_byMiddle_25 (lv_at hl 6 rfl) ?_
      refine ab_aload_n X dX9_byMiddle_27 rfl (lv_at hl 0 rfl) ?_
      refine ab_getR X S hF fi_9_47 lf_X9_146 dX9_byMiddle_28 (fun x11 hF => ?_)
      refine lv_iload X.1 X.2.1 dX9_byMiddle_31 (lv_at hl 6 rfl) ?_
      refine ab_aldD X S hF dX9_byMiddle_33 (fun x12 hF => ?_)
      refine lv_dload X.1 X.2.1 dX9_byMiddle_34 (lv_at hl 5 rfl) ?_
      refine ab_aload_n X dX9_byMiddle_36 rfl (lv_at hl 0 rfl) ?_
      refine ab_getR X S hF fi_9_52 lf_X9_161 dX9_byMiddle_37 (fun x13 hF => ?_)
      refine lv_iload X.1 X.2.1 dX9_byMiddle_40 (lv_at hl 6 rfl) ?_
      refine ab_aldD X S hF dX9_byMiddle_42 (fun x14 hF => ?_)
      obtain ⟨x15, h16, e17, hF⟩ := bnd_out hF
      refine ab_callSd X S (c_X9_times l D cA sz e17) mi_X9_times lm_X9_211 lt_yX9_times (As := [.double v7, .double x14]) (rest := [.double x12, .int v9, .int v1, va_rf v0, .int v9, va_rf x10]) rfl ⟨by decide, by decide⟩ ⟨by decide, by decide⟩ hl.1 rfl (by simp [ab_cat, ab_cI, ab_cJ, ab_cD, ab_cF]) dX9_byMiddle_43 (fun H1 locs1 S => ?_)
      obtain ⟨x18, h19, e20, hF⟩ := bnd_out hF
      refine ab_callSd X S (c_X9_plus l D cA sz e20) mi_X9_plus lm_X9_214 lt_yX9_plus (As := [.double x12, .double x15]) (rest := [.int v9, .int v1, va_rf v0, .int v9, va_rf x10]) rfl ⟨by decide, by decide⟩ ⟨by decide, by decide⟩ hl.1 rfl (by simp [ab_cat, ab_cI, ab_cJ, ab_cD, ab_cF]) dX9_byMiddle_46 (fun H1 locs1 S => ?_)
      obtain ⟨a24, e25, hF⟩ := bind_out hF
      obtain ⟨x21, h22, e23, hF⟩ := bnd_out hF
      refine ab_callVd X S e25 (c_X9_put l D cA sz e23) rfl (by decide) mi_X9_put lm_X9_281 li_yX9_put ls_yX9_put (As := [.int v1, .int v9, .double x18]) (rest := [.int v9, va_rf x10]) rfl ⟨by decide, by decide⟩ ⟨by decide, by decide⟩ hl.1 rfl (by simp [ab_cat, ab_cI, ab_cJ, ab_cD, ab_cF]) dX9_byMiddle_49 (fun H1 locs1 S => ?_)
      refine ab_astD X S hF dX9_byMiddle_52 (fun h26 H1 locs1 hF S => ?_)
      refine lv_iinc (v := v9 + 1) (lv' := [(9, .int (v9 + 1)), (0, va_rf v0), (1, .int v1), (2, .int v2), (3, .double v3), (5, .double v5), (7, .double v7)]) X.1 X.2.1 dX9_byMiddle_53 hl (k := 6) rfl (by rfl) (by decide) (by simp [ab_cat, ab_cI, ab_cJ, ab_cD, ab_cF]) (fun ls hl => ?_)
      refine lv_goto (tgt := 11) X.1 X.2.1 dX9_byMiddle_56 (by decide) ?_
      exact ih _ _ _ _ _ _ _ _ _ _ _ S (lv_sub hl [1, 2, 3, 4, 5, 6, 0] rfl) hF
def f_X9_byMiddle (this : Nat) (p0 : Int32) (p1 : Int32) (p2 : UInt64) (p3 : UInt64) (h : Hp) : Option (Unit × Hp) :=
  (fop (FP.ddiv p3 4611686018427387904)).bind fun x1 =>
  f_X9_byMiddle_11 fuelN (some this) p0 p1 p2 p3 x1 0 h
theorem mi_X9_byMiddle : ab_MI yX9_byMiddle cX9_byMiddle 10 none 4 := ⟨lc_yX9_byMiddle, lz_RX9, by decide, by decide, by decide +kernel⟩
set_option maxHeartbeats 4000000 in
set_option maxRecDepth 100000 in
theorem c_X9_byMiddle (l : Launch) (D : va_G) (cA : Nat → ClassId) (sz : Nat) {this : Nat} {p0 : Int32} {p1 : Int32} {p2 : UInt64} {p3 : UInt64} {h hh : Hp}  (hF : f_X9_byMiddle this p0 p1 p2 p3 h = some ((), hh)) : ab_C l D cA sz yX9_byMiddle cX9_byMiddle 10 none 6 0 0 [.ref this, .int p0, .int p1, .double p2, .double p3] h none hh := by
  refine Met.ofW (cc := cX9_byMiddle) (maxL := 10) (ret := none) (by decide) rfl ?_
  intro p e s m args below meth c s₁ B hml hv
  obtain ⟨rfl, hT, hR⟩ := hv
  have X : ab_X p s m _ meth c cX9_byMiddle 10 RX9 D cA sz := (ab_enter B hml hT hR).1
  have S := (ab_enter B hml hT hR).2
  have hr := B.returns
  obtain ⟨ls, hls, hl⟩ := ab_entry m [.ref this, .int p0, .int p1, .double p2, .double p3] 10 (lv := [(0, .ref this), (1, .int p0), (2, .int p1), (3, .double p2), (5, .double p3)]) (by simp [lg_sl, ab_cat, ab_cI, ab_cJ, ab_cD, ab_cF, ab_cA]) (by simp [lv_args, ab_cat, ab_cI, ab_cJ, ab_cD, ab_cF, ab_cA])
  rw [hls]
  have hl : lv_has ls 10 [(0, va_rf (some this)), (1, .int p0), (2, .int p1), (3, .double p2), (5, .double p3)] := hl
  unfold f_X9_byMiddle at hF
  show W p l e (ab_rm 6 0 0) s m _ below meth c s.heap [] 0 0 _ _
  refine lv_dload X.1 X.2.1 dX9_byMiddle_0 (lv_at hl 4 rfl) ?_
  refine lv_ldc2d (v := 4611686018427387904) X.1 X.2.1 X.2.2.2.1 (X.2.2.2.2.1 _ ld_X9_285) dX9_byMiddle_2 ?_
  obtain ⟨x1, ev, ne, hF⟩ := ab_fopx hF
  refine lv_ddiv X.1 X.2.1 dX9_byMiddle_5 ne ?_
  rw [ev]
  refine lv_dstore (lv' := [(7, .double x1), (0, va_rf (some this)), (1, .int p0), (2, .int p1), (3, .double p2), (5, .double p3)]) X.1 X.2.1 dX9_byMiddle_6 hl (by decide) (by simp [ab_cat, ab_cI, ab_cJ, ab_cD, ab_cF]) (fun ls hl => ?_)
  refine lv_iconst (v := 0) X.1 X.2.1 dX9_byMiddle_8 (by decide) ?_
  refine lv_istore (lv' := [(9, .int 0), (7, .double x1), (0, va_rf (some this)), (1, .int p0), (2, .int p1), (3, .double p2), (5, .double p3)]) X.1 X.2.1 dX9_byMiddle_9 hl (by decide) (by simp [ab_cat, ab_cI, ab_cJ, ab_cD, ab_cF]) (fun ls hl => ?_)
  exact w_X9_byMiddle_11 X hr  fuelN _ _ _ _ _ _ _ _ _ _ _ S (lv_sub hl [2, 3, 4, 5, 6, 1, 0] rfl) hF
def f_X9_third_163  : Nat → Option Nat → Int32 → Int32 → UInt64 → Int32 → Hp → Option (Unit × Hp)
  | 0, _, _, _, _, _, _ => none
  | n + 1, v0, v1, v2, v5, v9, h => if v2 ≤ v9 then
      some ((), h)
    else
      (getR h v0 9 49).bind fun x2 =>
      (getR h v0 9 47).bind fun x3 =>
      (aldD h x3 v9).bind fun x4 =>
      (fop (FP.ddiv v5 4618441417868443648)).bind fun x5 =>
      (getR h v0 9 52).bind fun x6 =>
      (aldD h x6 v9).bind fun x7 =>
      (getR h v0 9 53).bind fun x8 =>
      (aldD h x8 v9).bind fun x9 =>
      bnd (f_X9_times 4616189618054758400 x9 h) fun x10 h11 =>
      bnd (f_X9_plus x7 x10 h11) fun x13 h14 =>
      (getR h14 v0 9 54).bind fun x16 =>
      (aldD h14 x16 v9).bind fun x17 =>
      bnd (f_X9_plus x13 x17 h14) fun x18 h19 =>
      bnd (f_X9_times x5 x18 h19) fun x21 h22 =>
      bnd (f_X9_plus x4 x21 h22) fun x24 h25 =>
      (ab_ck h25 v0 (9, 0)).bind fun a30 =>
      bnd (f_X9_put a30 v1 v9 x24 h25) fun x27 h28 =>
      (astD h28 x2 v9 x27).bind fun h32 =>
      f_X9_third_163 n v0 v1 v2 v5 (v9 + 1) h32
set_option maxHeartbeats 4000000 in
set_option maxRecDepth 100000 in
theorem w_X9_third_163 {p : Program} {l : Launch} {e : Env} {s : State} {m : MethodId} {args : Array Value} {below : List Frame} {meth : Method} {c : Code} {D : va_G} {cA : Nat → ClassId} {sz : Nat}  {hh : Hp}  (X : ab_X p s m args meth c cX9_third 10 RX9 D cA sz) (hr : meth.sig.returnType = none)  (n : Nat) : ∀ (v0 : Option Nat) (v1 : Int32) (v2 : Int32) (v5 : UInt64) (v9 : Int32) (h : Hp) (H : Heap) (locs : List Loc) (ls : Array Slot), ab_H D cA sz h s H locs → lv_has ls 10 [(0, va_rf v0), (1, .int v1), (2, .int v2), (5, .double v5), (9, .int v9)] → f_X9_third_163 n v0 v1 v2 v5 v9 h = some ((), hh) → W p l e (ab_rm 6 0 0) s m args below meth c H locs 0 0 (MQ below (ab_Q D cA sz none hh) args s 0 0 (fun q => sz ≤ q)) (F0 m 163 ls []) := by
  induction n with
  | zero => intro v0 v1 v2 v5 v9 h H locs ls S hl hF; cases hF
  | succ n ih =>
    intro v0 v1 v2 v5 v9 h H locs ls S hl hF
    rw [f_X9_third_163] at hF
    refine lv_iload X.1 X.2.1 dX9_third_163 (lv_at hl 4 rfl) ?_
    refine lv_iload_n X.1 X.2.1 dX9_third_165 rfl (lv_at hl 2 rfl) ?_
    refine lv_icmp_ge (tgt := 241) X.1 X.2.1 dX9_third_166 (by decide) (fun c1 => ?_) (fun c1 => ?_)
    · have hF := ab_pos c1 hF
      exact ab_vret X S hr hF dX9_third_241
    · have hF := ab_neg c1 hF
      refine ab_aload_n X dX9_third_169 rfl (lv_at hl 0 rfl) ?_
      refine ab_getR X S hF fi_9_49 lf_X9_152 dX9_third_170 (fun x2 hF => ?_)
      refine lv_iload X.1 X.2.1 dX9_third_173 (lv_at hl 4 rfl) ?_
      refine ab_aload_n X dX9_third_175 rfl (lv_at hl 0 rfl) ?_
      refine lv_iload_n X.1 X.2.1 dX9_third_176 rfl (lv_at hl 1 rfl) ?_
      refine lv_iload X.1 X.2.1 dX9_third_177 (lv_at hl 4 rfl) ?_
      refine ab_aload_n X dX9_third_179 rfl (lv_at hl 0 rfl) ?_
      refine ab_getR X S hF fi_9_47 lf_X9_146 dX9_third_180 (fun x3 hF => ?_)
      refine lv_iload X.1 X.2.1 dX9_third_183 (lv_at hl 4 rfl) ?_
      refine ab_aldD X S hF dX9_third_185 (fun x4 hF => ?_)
      refine lv_dload X.1 X.2.1 dX9_third_186 (lv_at hl 3 rfl) ?_
      refine lv_ldc2d (v := 4618441417868443648) X.1 X.2.1 X.2.2.2.1 (X.2.2.2.2.1 _ ld_X9_287) dX9_third_188 ?_
      obtain ⟨x5, ev, ne, hF⟩ := ab_fopx hF
      refine lv_ddiv X.1 X.2.1 dX9_third_191 ne ?_
      rw [ev]
      refine ab_aload_n X dX9_third_192 rfl (lv_at hl 0 rfl) ?_
      refine ab_getR X S hF fi_9_52 lf_X9_161 dX9_third_193 (fun x6 hF => ?_)
      refine lv_iload X.1 X.2.1 dX9_third_196 (lv_at hl 4 rfl) ?_
      refine ab_aldD X S hF dX9_third_198 (fun x7 hF => ?_)
      refine lv_ldc2d (v := 4616189618054758400) X.1 X.2.1 X.2.2.2.1 (X.2.2.2.2.1 _ ld_X9_289) dX9_third_199 ?_
      refine ab_aload_n X dX9_third_202 rfl (lv_at hl 0 rfl) ?_
      refine ab_getR X S hF fi_9_53 lf_X9_164 dX9_third_203 (fun x8 hF => ?_)
      refine lv_iload X.1 X.2.1 dX9_third_206 (lv_at hl 4 rfl) ?_
      refine ab_aldD X S hF dX9_third_208 (fun x9 hF => ?_)
      obtain ⟨x10, h11, e12, hF⟩ := bnd_out hF
      refine ab_callSd X S (c_X9_times l D cA sz e12) mi_X9_times lm_X9_211 lt_yX9_times (As := [.double 4616189618054758400, .double x9]) (rest := [.double x7, .double x5, .double x4, .int v9, .int v1, va_rf v0, .int v9, va_rf x2]) rfl ⟨by decide, by decide⟩ ⟨by decide, by decide⟩ hl.1 rfl (by simp [ab_cat, ab_cI, ab_cJ, ab_cD, ab_cF]) dX9_third_209 (fun H1 locs1 S => ?_)
      obtain ⟨x13, h14, e15, hF⟩ := bnd_out hF
      refine ab_callSd X S (c_X9_plus l D cA sz e15) mi_X9_plus lm_X9_214 lt_yX9_plus (As := [.double x7, .double x10]) (rest := [.double x5, .double x4, .int v9, .int v1, va_rf v0, .int v9, va_rf x2]) rfl ⟨by decide, by decide⟩ ⟨by decide, by decide⟩ hl.1 rfl (by simp [ab_cat, ab_cI, ab_cJ, ab_cD, ab_cF]) dX9_third_212 (fun H1 locs1 S => ?_)
      refine ab_aload_n X dX9_third_215 rfl (lv_at hl 0 rfl) ?_
      refine ab_getR X S hF fi_9_54 lf_X9_167 dX9_third_216 (fun x16 hF => ?_)
      refine lv_iload X.1 X.2.1 dX9_third_219 (lv_at hl 4 rfl) ?_
      refine ab_aldD X S hF dX9_third_221 (fun x17 hF => ?_)
      obtain ⟨x18, h19, e20, hF⟩ := bnd_out hF
      refine ab_callSd X S (c_X9_plus l D cA sz e20) mi_X9_plus lm_X9_214 lt_yX9_plus (As := [.double x13, .double x17]) (rest := [.double x5, .double x4, .int v9, .int v1, va_rf v0, .int v9, va_rf x2]) rfl ⟨by decide, by decide⟩ ⟨by decide, by decide⟩ hl.1 rfl (by simp [ab_cat, ab_cI, ab_cJ, ab_cD, ab_cF]) dX9_third_222 (fun H1 locs1 S => ?_)
      obtain ⟨x21, h22, e23, hF⟩ := bnd_out hF
      refine ab_callSd X S (c_X9_times l D cA sz e23) mi_X9_times lm_X9_211 lt_yX9_times (As := [.double x5, .double x18]) (rest := [.double x4, .int v9, .int v1, va_rf v0, .int v9, va_rf x2]) rfl ⟨by decide, by decide⟩ ⟨by decide, by decide⟩ hl.1 rfl (by simp [ab_cat, ab_cI, ab_cJ, ab_cD, ab_cF]) dX9_third_225 (fun H1 locs1 S => ?_)
      obtain ⟨x24, h25, e26, hF⟩ := bnd_out hF
      refine ab_callSd X S (c_X9_plus l D cA sz e26) mi_X9_plus lm_X9_214 lt_yX9_plus (As := [.double x4, .double x21]) (rest := [.int v9, .int v1, va_rf v0, .int v9, va_rf x2]) rfl ⟨by decide, by decide⟩ ⟨by decide, by decide⟩ hl.1 rfl (by simp [ab_cat, ab_cI, ab_cJ, ab_cD, ab_cF]) dX9_third_228 (fun H1 locs1 S => ?_)
      obtain ⟨a30, e31, hF⟩ := bind_out hF
      obtain ⟨x27, h28, e29, hF⟩ := bnd_out hF
      refine ab_callVd X S e31 (c_X9_put l D cA sz e29) rfl (by decide) mi_X9_put lm_X9_281 li_yX9_put ls_yX9_put (As := [.int v1, .int v9, .double x24]) (rest := [.int v9, va_rf x2]) rfl ⟨by decide, by decide⟩ ⟨by decide, by decide⟩ hl.1 rfl (by simp [ab_cat, ab_cI, ab_cJ, ab_cD, ab_cF]) dX9_third_231 (fun H1 locs1 S => ?_)
      refine ab_astD X S hF dX9_third_234 (fun h32 H1 locs1 hF S => ?_)
      refine lv_iinc (v := v9 + 1) (lv' := [(9, .int (v9 + 1)), (0, va_rf v0), (1, .int v1), (2, .int v2), (5, .double v5)]) X.1 X.2.1 dX9_third_235 hl (k := 4) rfl (by rfl) (by decide) (by simp [ab_cat, ab_cI, ab_cJ, ab_cD, ab_cF]) (fun ls hl => ?_)
      refine lv_goto (tgt := 163) X.1 X.2.1 dX9_third_238 (by decide) ?_
      exact ih _ _ _ _ _ _ _ _ _ S (lv_sub hl [1, 2, 3, 4, 0] rfl) hF
def f_X9_third_79  : Nat → Option Nat → Int32 → Int32 → UInt64 → UInt64 → Int32 → Hp → Option (Unit × Hp)
  | 0, _, _, _, _, _, _, _ => none
  | n + 1, v0, v1, v2, v3, v5, v9, h => if v2 ≤ v9 then
      (fop (FP.dadd v3 v5)).bind fun x2 =>
      (getR h v0 9 48).bind fun x3 =>
      (getR h v0 9 54).bind fun x4 =>
      (ab_ck h v0 (9, 0)).bind fun a8 =>
      bnd (f_X9_rates a8 v1 x2 x3 x4 h) fun _ h6 =>
      f_X9_third_163 fuelN v0 v1 v2 v5 0 h6
    else
      (getR h v0 9 48).bind fun x10 =>
      (getR h v0 9 47).bind fun x11 =>
      (aldD h x11 v9).bind fun x12 =>
      (getR h v0 9 53).bind fun x13 =>
      (aldD h x13 v9).bind fun x14 =>
      bnd (f_X9_times 4611686018427387904 x14 h) fun x15 h16 =>
      (getR h16 v0 9 52).bind fun x18 =>
      (aldD h16 x18 v9).bind fun x19 =>
      bnd (f_X9_less x15 x19 h16) fun x20 h21 =>
      bnd (f_X9_times v5 x20 h21) fun x23 h24 =>
      bnd (f_X9_plus x12 x23 h24) fun x26 h27 =>
      (ab_ck h27 v0 (9, 0)).bind fun a32 =>
      bnd (f_X9_put a32 v1 v9 x26 h27) fun x29 h30 =>
      (astD h30 x10 v9 x29).bind fun h34 =>
      f_X9_third_79 n v0 v1 v2 v3 v5 (v9 + 1) h34
set_option maxHeartbeats 4000000 in
set_option maxRecDepth 100000 in
theorem w_X9_third_79 {p : Program} {l : Launch} {e : Env} {s : State} {m : MethodId} {args : Array Value} {below : List Frame} {meth : Method} {c : Code} {D : va_G} {cA : Nat → ClassId} {sz : Nat}  {hh : Hp}  (X : ab_X p s m args meth c cX9_third 10 RX9 D cA sz) (hr : meth.sig.returnType = none)  (n : Nat) : ∀ (v0 : Option Nat) (v1 : Int32) (v2 : Int32) (v3 : UInt64) (v5 : UInt64) (v9 : Int32) (h : Hp) (H : Heap) (locs : List Loc) (ls : Array Slot), ab_H D cA sz h s H locs → lv_has ls 10 [(0, va_rf v0), (1, .int v1), (2, .int v2), (3, .double v3), (5, .double v5), (9, .int v9)] → f_X9_third_79 n v0 v1 v2 v3 v5 v9 h = some ((), hh) → W p l e (ab_rm 6 0 0) s m args below meth c H locs 0 0 (MQ below (ab_Q D cA sz none hh) args s 0 0 (fun q => sz ≤ q)) (F0 m 79 ls []) := by
  induction n with
  | zero => intro v0 v1 v2 v3 v5 v9 h H locs ls S hl hF; cases hF
  | succ n ih =>
    intro v0 v1 v2 v3 v5 v9 h H locs ls S hl hF
    rw [f_X9_third_79] at hF
    refine lv_iload X.1 X.2.1 dX9_third_79 (lv_at hl 5 rfl) ?_
    refine lv_iload_n X.1 X.2.1 dX9_third_81 rfl (lv_at hl 2 rfl) ?_
    refine lv_icmp_ge (tgt := 143) X.1 X.2.1 dX9_third_82 (by decide) (fun c1 => ?_) (fun c1 => ?_)
    · have hF := ab_pos c1 hF
      refine ab_aload_n X dX9_third_143 rfl (lv_at hl 0 rfl) ?_
      refine lv_iload_n X.1 X.2.1 dX9_third_144 rfl (lv_at hl 1 rfl) ?_
      refine lv_dload_n X.1 X.2.1 dX9_third_145 rfl (lv_at hl 3 rfl) ?_
      refine lv_dload X.1 X.2.1 dX9_third_146 (lv_at hl 4 rfl) ?_
      obtain ⟨x2, ev, ne, hF⟩ := ab_fopx hF
      refine lv_dadd X.1 X.2.1 dX9_third_148 ne ?_
      rw [ev]
      refine ab_aload_n X dX9_third_149 rfl (lv_at hl 0 rfl) ?_
      refine ab_getR X S hF fi_9_48 lf_X9_149 dX9_third_150 (fun x3 hF => ?_)
      refine ab_aload_n X dX9_third_153 rfl (lv_at hl 0 rfl) ?_
      refine ab_getR X S hF fi_9_54 lf_X9_167 dX9_third_154 (fun x4 hF => ?_)
      obtain ⟨a8, e9, hF⟩ := bind_out hF
      obtain ⟨x5, h6, e7, hF⟩ := bnd_out hF
      refine ab_callVv X S e9 (c_X9_rates l D cA sz e7) rfl (by decide) mi_X9_rates lm_X9_254 li_yX9_rates ls_yX9_rates (As := [.int v1, .double x2, va_rf x3, va_rf x4]) (rest := []) rfl ⟨by decide, by decide⟩ ⟨by decide, by decide⟩ hl.1 rfl (by simp [ab_cat, ab_cI, ab_cJ, ab_cD, ab_cF]) dX9_third_157 (fun H1 locs1 S => ?_)
      refine lv_iconst (v := 0) X.1 X.2.1 dX9_third_160 (by decide) ?_
      refine lv_istore (lv' := [(9, .int 0), (0, va_rf v0), (1, .int v1), (2, .int v2), (3, .double v3), (5, .double v5)]) X.1 X.2.1 dX9_third_161 hl (by decide) (by simp [ab_cat, ab_cI, ab_cJ, ab_cD, ab_cF]) (fun ls hl => ?_)
      exact w_X9_third_163 X hr  fuelN _ _ _ _ _ _ _ _ _ S (lv_sub hl [1, 2, 3, 5, 0] rfl) hF
    · have hF := ab_neg c1 hF
      refine ab_aload_n X dX9_third_85 rfl (lv_at hl 0 rfl) ?_
      refine ab_getR X S hF fi_9_48 lf_X9_149 dX9_third_86 (fun x10 hF => ?_)
      refine lv_iload X.1 X.2.1 dX9_third_89 (lv_at hl 5 rfl) ?_
      refine ab_aload_n X dX9_third_91 rfl (lv_at hl 0 rfl) ?_
      refine lv_iload_n X.1 X.2.1 dX9_third_92 rfl (lv_at hl 1 rfl) ?_
      refine lv_iload X.1 X.2.1 dX9_third_93 (lv_at hl 5 rfl) ?_
      refine ab_aload_n X dX9_third_95 rfl (lv_at hl 0 rfl) ?_
      refine ab_getR X S hF fi_9_47 lf_X9_146 dX9_third_96 (fun x11 hF => ?_)
      refine lv_iload X.1 X.2.1 dX9_third_99 (lv_at hl 5 rfl) ?_
      refine ab_aldD X S hF dX9_third_101 (fun x12 hF => ?_)
      refine lv_dload X.1 X.2.1 dX9_third_102 (lv_at hl 4 rfl) ?_
      refine lv_ldc2d (v := 4611686018427387904) X.1 X.2.1 X.2.2.2.1 (X.2.2.2.2.1 _ ld_X9_285) dX9_third_104 ?_
      refine ab_aload_n X dX9_third_107 rfl (lv_at hl 0 rfl) ?_
      refine ab_getR X S hF fi_9_53 lf_X9_164 dX9_third_108 (fun x13 hF => ?_)
      refine lv_iload X.1 X.2.1 dX9_third_111 (lv_at hl 5 rfl) ?_
      refine ab_aldD X S hF dX9_third_113 (fun x14 hF => ?_)
      obtain ⟨x15, h16, e17, hF⟩ := bnd_out hF
      refine ab_callSd X S (c_X9_times l D cA sz e17) mi_X9_times lm_X9_211 lt_yX9_times (As := [.double 4611686018427387904, .double x14]) (rest := [.double v5, .double x12, .int v9, .int v1, va_rf v0, .int v9, va_rf x10]) rfl ⟨by decide, by decide⟩ ⟨by decide, by decide⟩ hl.1 rfl (by simp [ab_cat, ab_cI, ab_cJ, ab_cD, ab_cF]) dX9_third_114 (fun H1 locs1 S => ?_)
      refine ab_aload_n X dX9_third_117 rfl (lv_at hl 0 rfl) ?_
      refine ab_getR X S hF fi_9_52 lf_X9_161 dX9_third_118 (fun x18 hF => ?_)
      refine lv_iload X.1 X.2.1 dX9_third_121 (lv_at hl 5 rfl) ?_
      refine ab_aldD X S hF dX9_third_123 (fun x19 hF => ?_)
      obtain ⟨x20, h21, e22, hF⟩ := bnd_out hF
      refine ab_callSd X S (c_X9_less l D cA sz e22) mi_X9_less lm_X9_204 lt_yX9_less (As := [.double x15, .double x19]) (rest := [.double v5, .double x12, .int v9, .int v1, va_rf v0, .int v9, va_rf x10]) rfl ⟨by decide, by decide⟩ ⟨by decide, by decide⟩ hl.1 rfl (by simp [ab_cat, ab_cI, ab_cJ, ab_cD, ab_cF]) dX9_third_124 (fun H1 locs1 S => ?_)
      obtain ⟨x23, h24, e25, hF⟩ := bnd_out hF
      refine ab_callSd X S (c_X9_times l D cA sz e25) mi_X9_times lm_X9_211 lt_yX9_times (As := [.double v5, .double x20]) (rest := [.double x12, .int v9, .int v1, va_rf v0, .int v9, va_rf x10]) rfl ⟨by decide, by decide⟩ ⟨by decide, by decide⟩ hl.1 rfl (by simp [ab_cat, ab_cI, ab_cJ, ab_cD, ab_cF]) dX9_third_127 (fun H1 locs1 S => ?_)
      obtain ⟨x26, h27, e28, hF⟩ := bnd_out hF
      refine ab_callSd X S (c_X9_plus l D cA sz e28) mi_X9_plus lm_X9_214 lt_yX9_plus (As := [.double x12, .double x23]) (rest := [.int v9, .int v1, va_rf v0, .int v9, va_rf x10]) rfl ⟨by decide, by decide⟩ ⟨by decide, by decide⟩ hl.1 rfl (by simp [ab_cat, ab_cI, ab_cJ, ab_cD, ab_cF]) dX9_third_130 (fun H1 locs1 S => ?_)
      obtain ⟨a32, e33, hF⟩ := bind_out hF
      obtain ⟨x29, h30, e31, hF⟩ := bnd_out hF
      refine ab_callVd X S e33 (c_X9_put l D cA sz e31) rfl (by decide) mi_X9_put lm_X9_281 li_yX9_put ls_yX9_put (As := [.int v1, .int v9, .double x26]) (rest := [.int v9, va_rf x10]) rfl ⟨by decide, by decide⟩ ⟨by decide, by decide⟩ hl.1 rfl (by simp [ab_cat, ab_cI, ab_cJ, ab_cD, ab_cF]) dX9_third_133 (fun H1 locs1 S => ?_)
      refine ab_astD X S hF dX9_third_136 (fun h34 H1 locs1 hF S => ?_)
      refine lv_iinc (v := v9 + 1) (lv' := [(9, .int (v9 + 1)), (0, va_rf v0), (1, .int v1), (2, .int v2), (3, .double v3), (5, .double v5)]) X.1 X.2.1 dX9_third_137 hl (k := 5) rfl (by rfl) (by decide) (by simp [ab_cat, ab_cI, ab_cJ, ab_cD, ab_cF]) (fun ls hl => ?_)
      refine lv_goto (tgt := 79) X.1 X.2.1 dX9_third_140 (by decide) ?_
      exact ih _ _ _ _ _ _ _ _ _ _ S (lv_sub hl [1, 2, 3, 4, 5, 0] rfl) hF
def f_X9_third_11  : Nat → Option Nat → Int32 → Int32 → UInt64 → UInt64 → UInt64 → Int32 → Hp → Option (Unit × Hp)
  | 0, _, _, _, _, _, _, _, _ => none
  | n + 1, v0, v1, v2, v3, v5, v7, v9, h => if v2 ≤ v9 then
      (fop (FP.dadd v3 v7)).bind fun x2 =>
      (getR h v0 9 48).bind fun x3 =>
      (getR h v0 9 53).bind fun x4 =>
      (ab_ck h v0 (9, 0)).bind fun a8 =>
      bnd (f_X9_rates a8 v1 x2 x3 x4 h) fun _ h6 =>
      f_X9_third_79 fuelN v0 v1 v2 v3 v5 0 h6
    else
      (getR h v0 9 48).bind fun x10 =>
      (getR h v0 9 47).bind fun x11 =>
      (aldD h x11 v9).bind fun x12 =>
      (getR h v0 9 52).bind fun x13 =>
      (aldD h x13 v9).bind fun x14 =>
      bnd (f_X9_times v7 x14 h) fun x15 h16 =>
      bnd (f_X9_plus x12 x15 h16) fun x18 h19 =>
      (ab_ck h19 v0 (9, 0)).bind fun a24 =>
      bnd (f_X9_put a24 v1 v9 x18 h19) fun x21 h22 =>
      (astD h22 x10 v9 x21).bind fun h26 =>
      f_X9_third_11 n v0 v1 v2 v3 v5 v7 (v9 + 1) h26
set_option maxHeartbeats 4000000 in
set_option maxRecDepth 100000 in
theorem w_X9_third_11 {p : Program} {l : Launch} {e : Env} {s : State} {m : MethodId} {args : Array Value} {below : List Frame} {meth : Method} {c : Code} {D : va_G} {cA : Nat → ClassId} {sz : Nat}  {hh : Hp}  (X : ab_X p s m args meth c cX9_third 10 RX9 D cA sz) (hr : meth.sig.returnType = none)  (n : Nat) : ∀ (v0 : Option Nat) (v1 : Int32) (v2 : Int32) (v3 : UInt64) (v5 : UInt64) (v7 : UInt64) (v9 : Int32) (h : Hp) (H : Heap) (locs : List Loc) (ls : Array Slot), ab_H D cA sz h s H locs → lv_has ls 10 [(0, va_rf v0), (1, .int v1), (2, .int v2), (3, .double v3), (5, .double v5), (7, .double v7), (9, .int v9)] → f_X9_third_11 n v0 v1 v2 v3 v5 v7 v9 h = some ((), hh) → W p l e (ab_rm 6 0 0) s m args below meth c H locs 0 0 (MQ below (ab_Q D cA sz none hh) args s 0 0 (fun q => sz ≤ q)) (F0 m 11 ls []) := by
  induction n with
  | zero => intro v0 v1 v2 v3 v5 v7 v9 h H locs ls S hl hF; cases hF
  | succ n ih =>
    intro v0 v1 v2 v3 v5 v7 v9 h H locs ls S hl hF
    rw [f_X9_third_11] at hF
    refine lv_iload X.1 X.2.1 dX9_third_11 (lv_at hl 6 rfl) ?_
    refine lv_iload_n X.1 X.2.1 dX9_third_13 rfl (lv_at hl 2 rfl) ?_
    refine lv_icmp_ge (tgt := 59) X.1 X.2.1 dX9_third_14 (by decide) (fun c1 => ?_) (fun c1 => ?_)
    · have hF := ab_pos c1 hF
      refine ab_aload_n X dX9_third_59 rfl (lv_at hl 0 rfl) ?_
      refine lv_iload_n X.1 X.2.1 dX9_third_60 rfl (lv_at hl 1 rfl) ?_
      refine lv_dload_n X.1 X.2.1 dX9_third_61 rfl (lv_at hl 3 rfl) ?_
      refine lv_dload X.1 X.2.1 dX9_third_62 (lv_at hl 5 rfl) ?_
      obtain ⟨x2, ev, ne, hF⟩ := ab_fopx hF
      refine lv_dadd X.1 X.2.1 dX9_third_64 ne ?_
      rw [ev]
      refine ab_aload_n X dX9_third_65 rfl (lv_at hl 0 rfl) ?_
      refine ab_getR X S hF fi_9_48 lf_X9_149 dX9_third_66 (fun x3 hF => ?_)
      refine ab_aload_n X dX9_third_69 rfl (lv_at hl 0 rfl) ?_
      refine ab_getR X S hF fi_9_53 lf_X9_164 dX9_third_70 (fun x4 hF => ?_)
      obtain ⟨a8, e9, hF⟩ := bind_out hF
      obtain ⟨x5, h6, e7, hF⟩ := bnd_out hF
      refine ab_callVv X S e9 (c_X9_rates l D cA sz e7) rfl (by decide) mi_X9_rates lm_X9_254 li_yX9_rates ls_yX9_rates (As := [.int v1, .double x2, va_rf x3, va_rf x4]) (rest := []) rfl ⟨by decide, by decide⟩ ⟨by decide, by decide⟩ hl.1 rfl (by simp [ab_cat, ab_cI, ab_cJ, ab_cD, ab_cF]) dX9_third_73 (fun H1 locs1 S => ?_)
      refine lv_iconst (v := 0) X.1 X.2.1 dX9_third_76 (by decide) ?_
      refine lv_istore (lv' := [(9, .int 0), (0, va_rf v0), (1, .int v1), (2, .int v2), (3, .double v3), (5, .double v5), (7, .double v7)]) X.1 X.2.1 dX9_third_77 hl (by decide) (by simp [ab_cat, ab_cI, ab_cJ, ab_cD, ab_cF]) (fun ls hl => ?_)
      exact w_X9_third_79 X hr  fuelN _ _ _ _ _ _ _ _ _ _ S (lv_sub hl [1, 2, 3, 4, 5, 0] rfl) hF
    · have hF := ab_neg c1 hF
      refine ab_aload_n X dX9_third_17 rfl (lv_at hl 0 rfl) ?_
      refine ab_getR X S hF fi_9_48 lf_X9_149 dX9_third_18 (fun x10 hF => ?_)
      refine lv_iload X.1 X.2.1 dX9_third_21 (lv_at hl 6 rfl) ?_
      refine ab_aload_n X dX9_third_23 rfl (lv_at hl 0 rfl) ?_
      refine lv_iload_n X.1 X.2.1 dX9_third_24 rfl (lv_at hl 1 rfl) ?_
      refine lv_iload X.1 X.2.1 dX9_third_25 (lv_at hl 6 rfl) ?_
      refine ab_aload_n X dX9_third_27 rfl (lv_at hl 0 rfl) ?_
      refine ab_getR X S hF fi_9_47 lf_X9_146 dX9_third_28 (fun x11 hF => ?_)
      refine lv_iload X.1 X.2.1 dX9_third_31 (lv_at hl 6 rfl) ?_
      refine ab_aldD X S hF dX9_third_33 (fun x12 hF => ?_)
      refine lv_dload X.1 X.2.1 dX9_third_34 (lv_at hl 5 rfl) ?_
      refine ab_aload_n X dX9_third_36 rfl (lv_at hl 0 rfl) ?_
      refine ab_getR X S hF fi_9_52 lf_X9_161 dX9_third_37 (fun x13 hF => ?_)
      refine lv_iload X.1 X.2.1 dX9_third_40 (lv_at hl 6 rfl) ?_
      refine ab_aldD X S hF dX9_third_42 (fun x14 hF => ?_)
      obtain ⟨x15, h16, e17, hF⟩ := bnd_out hF
      refine ab_callSd X S (c_X9_times l D cA sz e17) mi_X9_times lm_X9_211 lt_yX9_times (As := [.double v7, .double x14]) (rest := [.double x12, .int v9, .int v1, va_rf v0, .int v9, va_rf x10]) rfl ⟨by decide, by decide⟩ ⟨by decide, by decide⟩ hl.1 rfl (by simp [ab_cat, ab_cI, ab_cJ, ab_cD, ab_cF]) dX9_third_43 (fun H1 locs1 S => ?_)
      obtain ⟨x18, h19, e20, hF⟩ := bnd_out hF
      refine ab_callSd X S (c_X9_plus l D cA sz e20) mi_X9_plus lm_X9_214 lt_yX9_plus (As := [.double x12, .double x15]) (rest := [.int v9, .int v1, va_rf v0, .int v9, va_rf x10]) rfl ⟨by decide, by decide⟩ ⟨by decide, by decide⟩ hl.1 rfl (by simp [ab_cat, ab_cI, ab_cJ, ab_cD, ab_cF]) dX9_third_46 (fun H1 locs1 S => ?_)
      obtain ⟨a24, e25, hF⟩ := bind_out hF
      obtain ⟨x21, h22, e23, hF⟩ := bnd_out hF
      refine ab_callVd X S e25 (c_X9_put l D cA sz e23) rfl (by decide) mi_X9_put lm_X9_281 li_yX9_put ls_yX9_put (As := [.int v1, .int v9, .double x18]) (rest := [.int v9, va_rf x10]) rfl ⟨by decide, by decide⟩ ⟨by decide, by decide⟩ hl.1 rfl (by simp [ab_cat, ab_cI, ab_cJ, ab_cD, ab_cF]) dX9_third_49 (fun H1 locs1 S => ?_)
      refine ab_astD X S hF dX9_third_52 (fun h26 H1 locs1 hF S => ?_)
      refine lv_iinc (v := v9 + 1) (lv' := [(9, .int (v9 + 1)), (0, va_rf v0), (1, .int v1), (2, .int v2), (3, .double v3), (5, .double v5), (7, .double v7)]) X.1 X.2.1 dX9_third_53 hl (k := 6) rfl (by rfl) (by decide) (by simp [ab_cat, ab_cI, ab_cJ, ab_cD, ab_cF]) (fun ls hl => ?_)
      refine lv_goto (tgt := 11) X.1 X.2.1 dX9_third_56 (by decide) ?_
      exact ih _ _ _ _ _ _ _ _ _ _ _ S (lv_sub hl [1, 2, 3, 4, 5, 6, 0] rfl) hF
def f_X9_third (this : Nat) (p0 : Int32) (p1 : Int32) (p2 : UInt64) (p3 : UInt64) (h : Hp) : Option (Unit × Hp) :=
  (fop (FP.ddiv p3 4611686018427387904)).bind fun x1 =>
  f_X9_third_11 fuelN (some this) p0 p1 p2 p3 x1 0 h
theorem mi_X9_third : ab_MI yX9_third cX9_third 10 none 4 := ⟨lc_yX9_third, lz_RX9, by decide, by decide, by decide +kernel⟩
set_option maxHeartbeats 4000000 in
set_option maxRecDepth 100000 in
theorem c_X9_third (l : Launch) (D : va_G) (cA : Nat → ClassId) (sz : Nat) {this : Nat} {p0 : Int32} {p1 : Int32} {p2 : UInt64} {p3 : UInt64} {h hh : Hp}  (hF : f_X9_third this p0 p1 p2 p3 h = some ((), hh)) : ab_C l D cA sz yX9_third cX9_third 10 none 6 0 0 [.ref this, .int p0, .int p1, .double p2, .double p3] h none hh := by
  refine Met.ofW (cc := cX9_third) (maxL := 10) (ret := none) (by decide) rfl ?_
  intro p e s m args below meth c s₁ B hml hv
  obtain ⟨rfl, hT, hR⟩ := hv
  have X : ab_X p s m _ meth c cX9_third 10 RX9 D cA sz := (ab_enter B hml hT hR).1
  have S := (ab_enter B hml hT hR).2
  have hr := B.returns
  obtain ⟨ls, hls, hl⟩ := ab_entry m [.ref this, .int p0, .int p1, .double p2, .double p3] 10 (lv := [(0, .ref this), (1, .int p0), (2, .int p1), (3, .double p2), (5, .double p3)]) (by simp [lg_sl, ab_cat, ab_cI, ab_cJ, ab_cD, ab_cF, ab_cA]) (by simp [lv_args, ab_cat, ab_cI, ab_cJ, ab_cD, ab_cF, ab_cA])
  rw [hls]
  have hl : lv_has ls 10 [(0, va_rf (some this)), (1, .int p0), (2, .int p1), (3, .double p2), (5, .double p3)] := hl
  unfold f_X9_third at hF
  show W p l e (ab_rm 6 0 0) s m _ below meth c s.heap [] 0 0 _ _
  refine lv_dload X.1 X.2.1 dX9_third_0 (lv_at hl 4 rfl) ?_
  refine lv_ldc2d (v := 4611686018427387904) X.1 X.2.1 X.2.2.2.1 (X.2.2.2.2.1 _ ld_X9_285) dX9_third_2 ?_
  obtain ⟨x1, ev, ne, hF⟩ := ab_fopx hF
  refine lv_ddiv X.1 X.2.1 dX9_third_5 ne ?_
  rw [ev]
  refine lv_dstore (lv' := [(7, .double x1), (0, va_rf (some this)), (1, .int p0), (2, .int p1), (3, .double p2), (5, .double p3)]) X.1 X.2.1 dX9_third_6 hl (by decide) (by simp [ab_cat, ab_cI, ab_cJ, ab_cD, ab_cF]) (fun ls hl => ?_)
  refine lv_iconst (v := 0) X.1 X.2.1 dX9_third_8 (by decide) ?_
  refine lv_istore (lv' := [(9, .int 0), (7, .double x1), (0, va_rf (some this)), (1, .int p0), (2, .int p1), (3, .double p2), (5, .double p3)]) X.1 X.2.1 dX9_third_9 hl (by decide) (by simp [ab_cat, ab_cI, ab_cJ, ab_cD, ab_cF]) (fun ls hl => ?_)
  exact w_X9_third_11 X hr  fuelN _ _ _ _ _ _ _ _ _ _ _ S (lv_sub hl [2, 3, 4, 5, 6, 1, 0] rfl) hF
def f_X9_fourth_215  : Nat → Option Nat → Int32 → Int32 → UInt64 → Int32 → Hp → Option (Unit × Hp)
  | 0, _, _, _, _, _, _ => none
  | n + 1, v0, v1, v2, v5, v9, h => if v2 ≤ v9 then
      some ((), h)
    else
      (getR h v0 9 49).bind fun x2 =>
      (getR h v0 9 47).bind fun x3 =>
      (aldD h x3 v9).bind fun x4 =>
      (fop (FP.ddiv v5 4618441417868443648)).bind fun x5 =>
      (getR h v0 9 52).bind fun x6 =>
      (aldD h x6 v9).bind fun x7 =>
      (getR h v0 9 53).bind fun x8 =>
      (aldD h x8 v9).bind fun x9 =>
      bnd (f_X9_times 4611686018427387904 x9 h) fun x10 h11 =>
      bnd (f_X9_plus x7 x10 h11) fun x13 h14 =>
      (getR h14 v0 9 54).bind fun x16 =>
      (aldD h14 x16 v9).bind fun x17 =>
      bnd (f_X9_times 4611686018427387904 x17 h14) fun x18 h19 =>
      bnd (f_X9_plus x13 x18 h19) fun x21 h22 =>
      (getR h22 v0 9 55).bind fun x24 =>
      (aldD h22 x24 v9).bind fun x25 =>
      bnd (f_X9_plus x21 x25 h22) fun x26 h27 =>
      bnd (f_X9_times x5 x26 h27) fun x29 h30 =>
      bnd (f_X9_plus x4 x29 h30) fun x32 h33 =>
      (ab_ck h33 v0 (9, 0)).bind fun a38 =>
      bnd (f_X9_put a38 v1 v9 x32 h33) fun x35 h36 =>
      (astD h36 x2 v9 x35).bind fun h40 =>
      f_X9_fourth_215 n v0 v1 v2 v5 (v9 + 1) h40
set_option maxHeartbeats 4000000 in
set_option maxRecDepth 100000 in
theorem w_X9_fourth_215 {p : Program} {l : Launch} {e : Env} {s : State} {m : MethodId} {args : Array Value} {below : List Frame} {meth : Method} {c : Code} {D : va_G} {cA : Nat → ClassId} {sz : Nat}  {hh : Hp}  (X : ab_X p s m args meth c cX9_fourth 10 RX9 D cA sz) (hr : meth.sig.returnType = none)  (n : Nat) : ∀ (v0 : Option Nat) (v1 : Int32) (v2 : Int32) (v5 : UInt64) (v9 : Int32) (h : Hp) (H : Heap) (locs : List Loc) (ls : Array Slot), ab_H D cA sz h s H locs → lv_has ls 10 [(0, va_rf v0), (1, .int v1), (2, .int v2), (5, .double v5), (9, .int v9)] → f_X9_fourth_215 n v0 v1 v2 v5 v9 h = some ((), hh) → W p l e (ab_rm 6 0 0) s m args below meth c H locs 0 0 (MQ below (ab_Q D cA sz none hh) args s 0 0 (fun q => sz ≤ q)) (F0 m 215 ls []) := by
  induction n with
  | zero => intro v0 v1 v2 v5 v9 h H locs ls S hl hF; cases hF
  | succ n ih =>
    intro v0 v1 v2 v5 v9 h H locs ls S hl hF
    rw [f_X9_fourth_215] at hF
    refine lv_iload X.1 X.2.1 dX9_fourth_215 (lv_at hl 4 rfl) ?_
    refine lv_iload_n X.1 X.2.1 dX9_fourth_217 rfl (lv_at hl 2 rfl) ?_
    refine lv_icmp_ge (tgt := 309) X.1 X.2.1 dX9_fourth_218 (by decide) (fun c1 => ?_) (fun c1 => ?_)
    · have hF := ab_pos c1 hF
      exact ab_vret X S hr hF dX9_fourth_309
    · have hF := ab_neg c1 hF
      refine ab_aload_n X dX9_fourth_221 rfl (lv_at hl 0 rfl) ?_
      refine ab_getR X S hF fi_9_49 lf_X9_152 dX9_fourth_222 (fun x2 hF => ?_)
      refine lv_iload X.1 X.2.1 dX9_fourth_225 (lv_at hl 4 rfl) ?_
      refine ab_aload_n X dX9_fourth_227 rfl (lv_at hl 0 rfl) ?_
      refine lv_iload_n X.1 X.2.1 dX9_fourth_228 rfl (lv_at hl 1 rfl) ?_
      refine lv_iload X.1 X.2.1 dX9_fourth_229 (lv_at hl 4 rfl) ?_
      refine ab_aload_n X dX9_fourth_231 rfl (lv_at hl 0 rfl) ?_
      refine ab_getR X S hF fi_9_47 lf_X9_146 dX9_fourth_232 (fun x3 hF => ?_)
      refine lv_iload X.1 X.2.1 dX9_fourth_235 (lv_at hl 4 rfl) ?_
      refine ab_aldD X S hF dX9_fourth_237 (fun x4 hF => ?_)
      refine lv_dload X.1 X.2.1 dX9_fourth_238 (lv_at hl 3 rfl) ?_
      refine lv_ldc2d (v := 4618441417868443648) X.1 X.2.1 X.2.2.2.1 (X.2.2.2.2.1 _ ld_X9_287) dX9_fourth_240 ?_
      obtain ⟨x5, ev, ne, hF⟩ := ab_fopx hF
      refine lv_ddiv X.1 X.2.1 dX9_fourth_243 ne ?_
      rw [ev]
      refine ab_aload_n X dX9_fourth_244 rfl (lv_at hl 0 rfl) ?_
      refine ab_getR X S hF fi_9_52 lf_X9_161 dX9_fourth_245 (fun x6 hF => ?_)
      refine lv_iload X.1 X.2.1 dX9_fourth_248 (lv_at hl 4 rfl) ?_
      refine ab_aldD X S hF dX9_fourth_250 (fun x7 hF => ?_)
      refine lv_ldc2d (v := 4611686018427387904) X.1 X.2.1 X.2.2.2.1 (X.2.2.2.2.1 _ ld_X9_285) dX9_fourth_251 ?_
      refine ab_aload_n X dX9_fourth_254 rfl (lv_at hl 0 rfl) ?_
      refine ab_getR X S hF fi_9_53 lf_X9_164 dX9_fourth_255 (fun x8 hF => ?_)
      refine lv_iload X.1 X.2.1 dX9_fourth_258 (lv_at hl 4 rfl) ?_
      refine ab_aldD X S hF dX9_fourth_260 (fun x9 hF => ?_)
      obtain ⟨x10, h11, e12, hF⟩ := bnd_out hF
      refine ab_callSd X S (c_X9_times l D cA sz e12) mi_X9_times lm_X9_211 lt_yX9_times (As := [.double 4611686018427387904, .double x9]) (rest := [.double x7, .double x5, .double x4, .int v9, .int v1, va_rf v0, .int v9, va_rf x2]) rfl ⟨by decide, by decide⟩ ⟨by decide, by decide⟩ hl.1 rfl (by simp [ab_cat, ab_cI, ab_cJ, ab_cD, ab_cF]) dX9_fourth_261 (fun H1 locs1 S => ?_)
      obtain ⟨x13, h14, e15, hF⟩ := bnd_out hF
      refine ab_callSd X S (c_X9_plus l D cA sz e15) mi_X9_plus lm_X9_214 lt_yX9_plus (As := [.double x7, .double x10]) (rest := [.double x5, .double x4, .int v9, .int v1, va_rf v0, .int v9, va_rf x2]) rfl ⟨by decide, by decide⟩ ⟨by decide, by decide⟩ hl.1 rfl (by simp [ab_cat, ab_cI, ab_cJ, ab_cD, ab_cF]) dX9_fourth_264 (fun H1 locs1 S => ?_)
      refine lv_ldc2d (v := 4611686018427387904) X.1 X.2.1 X.2.2.2.1 (X.2.2.2.2.1 _ ld_X9_285) dX9_fourth_267 ?_
      refine ab_aload_n X dX9_fourth_270 rfl (lv_at hl 0 rfl) ?_
      refine ab_getR X S hF fi_9_54 lf_X9_167 dX9_fourth_271 (fun x16 hF => ?_)
      refine lv_iload X.1 X.2.1 dX9_fourth_274 (lv_at hl 4 rfl) ?_
      refine ab_aldD X S hF dX9_fourth_276 (fun x17 hF => ?_)
      obtain ⟨x18, h19, e20, hF⟩ := bnd_out hF
      refine ab_callSd X S (c_X9_times l D cA sz e20) mi_X9_times lm_X9_211 lt_yX9_times (As := [.double 4611686018427387904, .double x17]) (rest := [.double x13, .double x5, .double x4, .int v9, .int v1, va_rf v0, .int v9, va_rf x2]) rfl ⟨by decide, by decide⟩ ⟨by decide, by decide⟩ hl.1 rfl (by simp [ab_cat, ab_cI, ab_cJ, ab_cD, ab_cF]) dX9_fourth_277 (fun H1 locs1 S => ?_)
      obtain ⟨x21, h22, e23, hF⟩ := bnd_out hF
      refine ab_callSd X S (c_X9_plus l D cA sz e23) mi_X9_plus lm_X9_214 lt_yX9_plus (As := [.double x13, .double x18]) (rest := [.double x5, .double x4, .int v9, .int v1, va_rf v0, .int v9, va_rf x2]) rfl ⟨by decide, by decide⟩ ⟨by decide, by decide⟩ hl.1 rfl (by simp [ab_cat, ab_cI, ab_cJ, ab_cD, ab_cF]) dX9_fourth_280 (fun H1 locs1 S => ?_)
      refine ab_aload_n X dX9_fourth_283 rfl (lv_at hl 0 rfl) ?_
      refine ab_getR X S hF fi_9_55 lf_X9_170 dX9_fourth_284 (fun x24 hF => ?_)
      refine lv_iload X.1 X.2.1 dX9_fourth_287 (lv_at hl 4 rfl) ?_
      refine ab_aldD X S hF dX9_fourth_289 (fun x25 hF => ?_)
      obtain ⟨x26, h27, e28, hF⟩ := bnd_out hF
      refine ab_callSd X S (c_X9_plus l D cA sz e28) mi_X9_plus lm_X9_214 lt_yX9_plus (As := [.double x21, .double x25]) (rest := [.double x5, .double x4, .int v9, .int v1, va_rf v0, .int v9, va_rf x2]) rfl ⟨by decide, by decide⟩ ⟨by decide, by decide⟩ hl.1 rfl (by simp [ab_cat, ab_cI, ab_cJ, ab_cD, ab_cF]) dX9_fourth_290 (fun H1 locs1 S => ?_)
      obtain ⟨x29, h30, e31, hF⟩ := bnd_out hF
      refine ab_callSd X S (c_X9_times l D cA sz e31) mi_X9_times lm_X9_211 lt_yX9_times (As := [.double x5, .double x26]) (rest := [.double x4, .int v9, .int v1, va_rf v0, .int v9, va_rf x2]) rfl ⟨by decide, by decide⟩ ⟨by decide, by decide⟩ hl.1 rfl (by simp [ab_cat, ab_cI, ab_cJ, ab_cD, ab_cF]) dX9_fourth_293 (fun H1 locs1 S => ?_)
      obtain ⟨x32, h33, e34, hF⟩ := bnd_out hF
      refine ab_callSd X S (c_X9_plus l D cA sz e34) mi_X9_plus lm_X9_214 lt_yX9_plus (As := [.double x4, .double x29]) (rest := [.int v9, .int v1, va_rf v0, .int v9, va_rf x2]) rfl ⟨by decide, by decide⟩ ⟨by decide, by decide⟩ hl.1 rfl (by simp [ab_cat, ab_cI, ab_cJ, ab_cD, ab_cF]) dX9_fourth_296 (fun H1 locs1 S => ?_)
      obtain ⟨a38, e39, hF⟩ := bind_out hF
      obtain ⟨x35, h36, e37, hF⟩ := bnd_out hF
      refine ab_callVd X S e39 (c_X9_put l D cA sz e37) rfl (by decide) mi_X9_put lm_X9_281 li_yX9_put ls_yX9_put (As := [.int v1, .int v9, .double x32]) (rest := [.int v9, va_rf x2]) rfl ⟨by decide, by decide⟩ ⟨by decide, by decide⟩ hl.1 rfl (by simp [ab_cat, ab_cI, ab_cJ, ab_cD, ab_cF]) dX9_fourth_299 (fun H1 locs1 S => ?_)
      refine ab_astD X S hF dX9_fourth_302 (fun h40 H1 locs1 hF S => ?_)
      refine lv_iinc (v := v9 + 1) (lv' := [(9, .int (v9 + 1)), (0, va_rf v0), (1, .int v1), (2, .int v2), (5, .double v5)]) X.1 X.2.1 dX9_fourth_303 hl (k := 4) rfl (by rfl) (by decide) (by simp [ab_cat, ab_cI, ab_cJ, ab_cD, ab_cF]) (fun ls hl => ?_)
      refine lv_goto (tgt := 215) X.1 X.2.1 dX9_fourth_306 (by decide) ?_
      exact ih _ _ _ _ _ _ _ _ _ S (lv_sub hl [1, 2, 3, 4, 0] rfl) hF
def f_X9_fourth_147  : Nat → Option Nat → Int32 → Int32 → UInt64 → UInt64 → Int32 → Hp → Option (Unit × Hp)
  | 0, _, _, _, _, _, _, _ => none
  | n + 1, v0, v1, v2, v3, v5, v9, h => if v2 ≤ v9 then
      (fop (FP.dadd v3 v5)).bind fun x2 =>
      (getR h v0 9 48).bind fun x3 =>
      (getR h v0 9 55).bind fun x4 =>
      (ab_ck h v0 (9, 0)).bind fun a8 =>
      bnd (f_X9_rates a8 v1 x2 x3 x4 h) fun _ h6 =>
      f_X9_fourth_215 fuelN v0 v1 v2 v5 0 h6
    else
      (getR h v0 9 48).bind fun x10 =>
      (getR h v0 9 47).bind fun x11 =>
      (aldD h x11 v9).bind fun x12 =>
      (getR h v0 9 54).bind fun x13 =>
      (aldD h x13 v9).bind fun x14 =>
      bnd (f_X9_times v5 x14 h) fun x15 h16 =>
      bnd (f_X9_plus x12 x15 h16) fun x18 h19 =>
      (ab_ck h19 v0 (9, 0)).bind fun a24 =>
      bnd (f_X9_put a24 v1 v9 x18 h19) fun x21 h22 =>
      (astD h22 x10 v9 x21).bind fun h26 =>
      f_X9_fourth_147 n v0 v1 v2 v3 v5 (v9 + 1) h26
set_option maxHeartbeats 4000000 in
set_option maxRecDepth 100000 in
theorem w_X9_fourth_147 {p : Program} {l : Launch} {e : Env} {s : State} {m : MethodId} {args : Array Value} {below : List Frame} {meth : Method} {c : Code} {D : va_G} {cA : Nat → ClassId} {sz : Nat}  {hh : Hp}  (X : ab_X p s m args meth c cX9_fourth 10 RX9 D cA sz) (hr : meth.sig.returnType = none)  (n : Nat) : ∀ (v0 : Option Nat) (v1 : Int32) (v2 : Int32) (v3 : UInt64) (v5 : UInt64) (v9 : Int32) (h : Hp) (H : Heap) (locs : List Loc) (ls : Array Slot), ab_H D cA sz h s H locs → lv_has ls 10 [(0, va_rf v0), (1, .int v1), (2, .int v2), (3, .double v3), (5, .double v5), (9, .int v9)] → f_X9_fourth_147 n v0 v1 v2 v3 v5 v9 h = some ((), hh) → W p l e (ab_rm 6 0 0) s m args below meth c H locs 0 0 (MQ below (ab_Q D cA sz none hh) args s 0 0 (fun q => sz ≤ q)) (F0 m 147 ls []) := by
  induction n with
  | zero => intro v0 v1 v2 v3 v5 v9 h H locs ls S hl hF; cases hF
  | succ n ih =>
    intro v0 v1 v2 v3 v5 v9 h H locs ls S hl hF
    rw [f_X9_fourth_147] at hF
    refine lv_iload X.1 X.2.1 dX9_fourth_147 (lv_at hl 5 rfl) ?_
    refine lv_iload_n X.1 X.2.1 dX9_fourth_149 rfl (lv_at hl 2 rfl) ?_
    refine lv_icmp_ge (tgt := 195) X.1 X.2.1 dX9_fourth_150 (by decide) (fun c1 => ?_) (fun c1 => ?_)
    · have hF := ab_pos c1 hF
      refine ab_aload_n X dX9_fourth_195 rfl (lv_at hl 0 rfl) ?_
      refine lv_iload_n X.1 X.2.1 dX9_fourth_196 rfl (lv_at hl 1 rfl) ?_
      refine lv_dload_n X.1 X.2.1 dX9_fourth_197 rfl (lv_at hl 3 rfl) ?_
      refine lv_dload X.1 X.2.1 dX9_fourth_198 (lv_at hl 4 rfl) ?_
      obtain ⟨x2, ev, ne, hF⟩ := ab_fopx hF
      refine lv_dadd X.1 X.2.1 dX9_fourth_200 ne ?_
      rw [ev]
      refine ab_aload_n X dX9_fourth_201 rfl (lv_at hl 0 rfl) ?_
      refine ab_getR X S hF fi_9_48 lf_X9_149 dX9_fourth_202 (fun x3 hF => ?_)
      refine ab_aload_n X dX9_fourth_205 rfl (lv_at hl 0 rfl) ?_
      refine ab_getR X S hF fi_9_55 lf_X9_170 dX9_fourth_206 (fun x4 hF => ?_)
      obtain ⟨a8, e9, hF⟩ := bind_out hF
      obtain ⟨x5, h6, e7, hF⟩ := bnd_out hF
      refine ab_callVv X S e9 (c_X9_rates l D cA sz e7) rfl (by decide) mi_X9_rates lm_X9_254 li_yX9_rates ls_yX9_rates (As := [.int v1, .double x2, va_rf x3, va_rf x4]) (rest := []) rfl ⟨by decide, by decide⟩ ⟨by decide, by decide⟩ hl.1 rfl (by simp [ab_cat, ab_cI, ab_cJ, ab_cD, ab_cF]) dX9_fourth_209 (fun H1 locs1 S => ?_)
      refine lv_iconst (v := 0) X.1 X.2.1 dX9_fourth_212 (by decide) ?_
      refine lv_istore (lv' := [(9, .int 0), (0, va_rf v0), (1, .int v1), (2, .int v2), (3, .double v3), (5, .double v5)]) X.1 X.2.1 dX9_fourth_213 hl (by decide) (by simp [ab_cat, ab_cI, ab_cJ, ab_cD, ab_cF]) (fun ls hl => ?_)
      exact w_X9_fourth_215 X hr  fuelN _ _ _ _ _ _ _ _ _ S (lv_sub hl [1, 2, 3, 5, 0] rfl) hF
    · have hF := ab_neg c1 hF
      refine ab_aload_n X dX9_fourth_153 rfl (lv_at hl 0 rfl) ?_
      refine ab_getR X S hF fi_9_48 lf_X9_149 dX9_fourth_154 (fun x10 hF => ?_)
      refine lv_iload X.1 X.2.1 dX9_fourth_157 (lv_at hl 5 rfl) ?_
      refine ab_aload_n X dX9_fourth_159 rfl (lv_at hl 0 rfl) ?_
      refine lv_iload_n X.1 X.2.1 dX9_fourth_160 rfl (lv_at hl 1 rfl) ?_
      refine lv_iload X.1 X.2.1 dX9_fourth_161 (lv_at hl 5 rfl) ?_
      refine ab_aload_n X dX9_fourth_163 rfl (lv_at hl 0 rfl) ?_
      refine ab_getR X S hF fi_9_47 lf_X9_146 dX9_fourth_164 (fun x11 hF => ?_)
      refine lv_iload X.1 X.2.1 dX9_fourth_167 (lv_at hl 5 rfl) ?_
      refine ab_aldD X S hF dX9_fourth_169 (fun x12 hF => ?_)
      refine lv_dload X.1 X.2.1 dX9_fourth_170 (lv_at hl 4 rfl) ?_
      refine ab_aload_n X dX9_fourth_172 rfl (lv_at hl 0 rfl) ?_
      refine ab_getR X S hF fi_9_54 lf_X9_167 dX9_fourth_173 (fun x13 hF => ?_)
      refine lv_iload X.1 X.2.1 dX9_fourth_176 (lv_at hl 5 rfl) ?_
      refine ab_aldD X S hF dX9_fourth_178 (fun x14 hF => ?_)
      obtain ⟨x15, h16, e17, hF⟩ := bnd_out hF
      refine ab_callSd X S (c_X9_times l D cA sz e17) mi_X9_times lm_X9_211 lt_yX9_times (As := [.double v5, .double x14]) (rest := [.double x12, .int v9, .int v1, va_rf v0, .int v9, va_rf x10]) rfl ⟨by decide, by decide⟩ ⟨by decide, by decide⟩ hl.1 rfl (by simp [ab_cat, ab_cI, ab_cJ, ab_cD, ab_cF]) dX9_fourth_179 (fun H1 locs1 S => ?_)
      obtain ⟨x18, h19, e20, hF⟩ := bnd_out hF
      refine ab_callSd X S (c_X9_plus l D cA sz e20) mi_X9_plus lm_X9_214 lt_yX9_plus (As := [.double x12, .double x15]) (rest := [.int v9, .int v1, va_rf v0, .int v9, va_rf x10]) rfl ⟨by decide, by decide⟩ ⟨by decide, by decide⟩ hl.1 rfl (by simp [ab_cat, ab_cI, ab_cJ, ab_cD, ab_cF]) dX9_fourth_182 (fun H1 locs1 S => ?_)
      obtain ⟨a24, e25, hF⟩ := bind_out hF
      obtain ⟨x21, h22, e23, hF⟩ := bnd_out hF
      refine ab_callVd X S e25 (c_X9_put l D cA sz e23) rfl (by decide) mi_X9_put lm_X9_281 li_yX9_put ls_yX9_put (As := [.int v1, .int v9, .double x18]) (rest := [.int v9, va_rf x10]) rfl ⟨by decide, by decide⟩ ⟨by decide, by decide⟩ hl.1 rfl (by simp [ab_cat, ab_cI, ab_cJ, ab_cD, ab_cF]) dX9_fourth_185 (fun H1 locs1 S => ?_)
      refine ab_astD X S hF dX9_fourth_188 (fun h26 H1 locs1 hF S => ?_)
      refine lv_iinc (v := v9 + 1) (lv' := [(9, .int (v9 + 1)), (0, va_rf v0), (1, .int v1), (2, .int v2), (3, .double v3), (5, .double v5)]) X.1 X.2.1 dX9_fourth_189 hl (k := 5) rfl (by rfl) (by decide) (by simp [ab_cat, ab_cI, ab_cJ, ab_cD, ab_cF]) (fun ls hl => ?_)
      refine lv_goto (tgt := 147) X.1 X.2.1 dX9_fourth_192 (by decide) ?_
      exact ih _ _ _ _ _ _ _ _ _ _ S (lv_sub hl [1, 2, 3, 4, 5, 0] rfl) hF
def f_X9_fourth_79  : Nat → Option Nat → Int32 → Int32 → UInt64 → UInt64 → UInt64 → Int32 → Hp → Option (Unit × Hp)
  | 0, _, _, _, _, _, _, _, _ => none
  | n + 1, v0, v1, v2, v3, v5, v7, v9, h => if v2 ≤ v9 then
      (fop (FP.dadd v3 v7)).bind fun x2 =>
      (getR h v0 9 48).bind fun x3 =>
      (getR h v0 9 54).bind fun x4 =>
      (ab_ck h v0 (9, 0)).bind fun a8 =>
      bnd (f_X9_rates a8 v1 x2 x3 x4 h) fun _ h6 =>
      f_X9_fourth_147 fuelN v0 v1 v2 v3 v5 0 h6
    else
      (getR h v0 9 48).bind fun x10 =>
      (getR h v0 9 47).bind fun x11 =>
      (aldD h x11 v9).bind fun x12 =>
      (getR h v0 9 53).bind fun x13 =>
      (aldD h x13 v9).bind fun x14 =>
      bnd (f_X9_times v7 x14 h) fun x15 h16 =>
      bnd (f_X9_plus x12 x15 h16) fun x18 h19 =>
      (ab_ck h19 v0 (9, 0)).bind fun a24 =>
      bnd (f_X9_put a24 v1 v9 x18 h19) fun x21 h22 =>
      (astD h22 x10 v9 x21).bind fun h26 =>
      f_X9_fourth_79 n v0 v1 v2 v3 v5 v7 (v9 + 1) h26
set_option maxHeartbeats 4000000 in
set_option maxRecDepth 100000 in
theorem w_X9_fourth_79 {p : Program} {l : Launch} {e : Env} {s : State} {m : MethodId} {args : Array Value} {below : List Frame} {meth : Method} {c : Code} {D : va_G} {cA : Nat → ClassId} {sz : Nat}  {hh : Hp}  (X : ab_X p s m args meth c cX9_fourth 10 RX9 D cA sz) (hr : meth.sig.returnType = none)  (n : Nat) : ∀ (v0 : Option Nat) (v1 : Int32) (v2 : Int32) (v3 : UInt64) (v5 : UInt64) (v7 : UInt64) (v9 : Int32) (h : Hp) (H : Heap) (locs : List Loc) (ls : Array Slot), ab_H D cA sz h s H locs → lv_has ls 10 [(0, va_rf v0), (1, .int v1), (2, .int v2), (3, .double v3), (5, .double v5), (7, .double v7), (9, .int v9)] → f_X9_fourth_79 n v0 v1 v2 v3 v5 v7 v9 h = some ((), hh) → W p l e (ab_rm 6 0 0) s m args below meth c H locs 0 0 (MQ below (ab_Q D cA sz none hh) args s 0 0 (fun q => sz ≤ q)) (F0 m 79 ls []) := by
  induction n with
  | zero => intro v0 v1 v2 v3 v5 v7 v9 h H locs ls S hl hF; cases hF
  | succ n ih =>
    intro v0 v1 v2 v3 v5 v7 v9 h H locs ls S hl hF
    rw [f_X9_fourth_79] at hF
    refine lv_iload X.1 X.2.1 dX9_fourth_79 (lv_at hl 6 rfl) ?_
    refine lv_iload_n X.1 X.2.1 dX9_fourth_81 rfl (lv_at hl 2 rfl) ?_
    refine lv_icmp_ge (tgt := 127) X.1 X.2.1 dX9_fourth_82 (by decide) (fun c1 => ?_) (fun c1 => ?_)
    · have hF := ab_pos c1 hF
      refine ab_aload_n X dX9_fourth_127 rfl (lv_at hl 0 rfl) ?_
      refine lv_iload_n X.1 X.2.1 dX9_fourth_128 rfl (lv_at hl 1 rfl) ?_
      refine lv_dload_n X.1 X.2.1 dX9_fourth_129 rfl (lv_at hl 3 rfl) ?_
      refine lv_dload X.1 X.2.1 dX9_fourth_130 (lv_at hl 5 rfl) ?_
      obtain ⟨x2, ev, ne, hF⟩ := ab_fopx hF
      refine lv_dadd X.1 X.2.1 dX9_fourth_132 ne ?_
      rw [ev]
      refine ab_aload_n X dX9_fourth_133 rfl (lv_at hl 0 rfl) ?_
      refine ab_getR X S hF fi_9_48 lf_X9_149 dX9_fourth_134 (fun x3 hF => ?_)
      refine ab_aload_n X dX9_fourth_137 rfl (lv_at hl 0 rfl) ?_
      refine ab_getR X S hF fi_9_54 lf_X9_167 dX9_fourth_138 (fun x4 hF => ?_)
      obtain ⟨a8, e9, hF⟩ := bind_out hF
      obtain ⟨x5, h6, e7, hF⟩ := bnd_out hF
      refine ab_callVv X S e9 (c_X9_rates l D cA sz e7) rfl (by decide) mi_X9_rates lm_X9_254 li_yX9_rates ls_yX9_rates (As := [.int v1, .double x2, va_rf x3, va_rf x4]) (rest := []) rfl ⟨by decide, by decide⟩ ⟨by decide, by decide⟩ hl.1 rfl (by simp [ab_cat, ab_cI, ab_cJ, ab_cD, ab_cF]) dX9_fourth_141 (fun H1 locs1 S => ?_)
      refine lv_iconst (v := 0) X.1 X.2.1 dX9_fourth_144 (by decide) ?_
      refine lv_istore (lv' := [(9, .int 0), (0, va_rf v0), (1, .int v1), (2, .int v2), (3, .double v3), (5, .double v5), (7, .double v7)]) X.1 X.2.1 dX9_fourth_145 hl (by decide) (by simp [ab_cat, ab_cI, ab_cJ, ab_cD, ab_cF]) (fun ls hl => ?_)
      exact w_X9_fourth_147 X hr  fuelN _ _ _ _ _ _ _ _ _ _ S (lv_sub hl [1, 2, 3, 4, 5, 0] rfl) hF
    · have hF := ab_neg c1 hF
      refine ab_aload_n X dX9_fourth_85 rfl (lv_at hl 0 rfl) ?_
      refine ab_getR X S hF fi_9_48 lf_X9_149 dX9_fourth_86 (fun x10 hF => ?_)
      refine lv_iload X.1 X.2.1 dX9_fourth_89 (lv_at hl 6 rfl) ?_
      refine ab_aload_n X dX9_fourth_91 rfl (lv_at hl 0 rfl) ?_
      refine lv_iload_n X.1 X.2.1 dX9_fourth_92 rfl (lv_at hl 1 rfl) ?_
      refine lv_iload X.1 X.2.1 dX9_fourth_93 (lv_at hl 6 rfl) ?_
      refine ab_aload_n X dX9_fourth_95 rfl (lv_at hl 0 rfl) ?_
      refine ab_getR X S hF fi_9_47 lf_X9_146 dX9_fourth_96 (fun x11 hF => ?_)
      refine lv_iload X.1 X.2.1 dX9_fourth_99 (lv_at hl 6 rfl) ?_
      refine ab_aldD X S hF dX9_fourth_101 (fun x12 hF => ?_)
      refine lv_dload X.1 X.2.1 dX9_fourth_102 (lv_at hl 5 rfl) ?_
      refine ab_aload_n X dX9_fourth_104 rfl (lv_at hl 0 rfl) ?_
      refine ab_getR X S hF fi_9_53 lf_X9_164 dX9_fourth_105 (fun x13 hF => ?_)
      refine lv_iload X.1 X.2.1 dX9_fourth_108 (lv_at hl 6 rfl) ?_
      refine ab_aldD X S hF dX9_fourth_110 (fun x14 hF => ?_)
      obtain ⟨x15, h16, e17, hF⟩ := bnd_out hF
      refine ab_callSd X S (c_X9_times l D cA sz e17) mi_X9_times lm_X9_211 lt_yX9_times (As := [.double v7, .double x14]) (rest := [.double x12, .int v9, .int v1, va_rf v0, .int v9, va_rf x10]) rfl ⟨by decide, by decide⟩ ⟨by decide, by decide⟩ hl.1 rfl (by simp [ab_cat, ab_cI, ab_cJ, ab_cD, ab_cF]) dX9_fourth_111 (fun H1 locs1 S => ?_)
      obtain ⟨x18, h19, e20, hF⟩ := bnd_out hF
      refine ab_callSd X S (c_X9_plus l D cA sz e20) mi_X9_plus lm_X9_214 lt_yX9_plus (As := [.double x12, .double x15]) (rest := [.int v9, .int v1, va_rf v0, .int v9, va_rf x10]) rfl ⟨by decide, by decide⟩ ⟨by decide, by decide⟩ hl.1 rfl (by simp [ab_cat, ab_cI, ab_cJ, ab_cD, ab_cF]) dX9_fourth_114 (fun H1 locs1 S => ?_)
      obtain ⟨a24, e25, hF⟩ := bind_out hF
      obtain ⟨x21, h22, e23, hF⟩ := bnd_out hF
      refine ab_callVd X S e25 (c_X9_put l D cA sz e23) rfl (by decide) mi_X9_put lm_X9_281 li_yX9_put ls_yX9_put (As := [.int v1, .int v9, .double x18]) (rest := [.int v9, va_rf x10]) rfl ⟨by decide, by decide⟩ ⟨by decide, by decide⟩ hl.1 rfl (by simp [ab_cat, ab_cI, ab_cJ, ab_cD, ab_cF]) dX9_fourth_117 (fun H1 locs1 S => ?_)
      refine ab_astD X S hF dX9_fourth_120 (fun h26 H1 locs1 hF S => ?_)
      refine lv_iinc (v := v9 + 1) (lv' := [(9, .int (v9 + 1)), (0, va_rf v0), (1, .int v1), (2, .int v2), (3, .double v3), (5, .double v5), (7, .double v7)]) X.1 X.2.1 dX9_fourth_121 hl (k := 6) rfl (by rfl) (by decide) (by simp [ab_cat, ab_cI, ab_cJ, ab_cD, ab_cF]) (fun ls hl => ?_)
      refine lv_goto (tgt := 79) X.1 X.2.1 dX9_fourth_124 (by decide) ?_
      exact ih _ _ _ _ _ _ _ _ _ _ _ S (lv_sub hl [1, 2, 3, 4, 5, 6, 0] rfl) hF
def f_X9_fourth_11  : Nat → Option Nat → Int32 → Int32 → UInt64 → UInt64 → UInt64 → Int32 → Hp → Option (Unit × Hp)
  | 0, _, _, _, _, _, _, _, _ => none
  | n + 1, v0, v1, v2, v3, v5, v7, v9, h => if v2 ≤ v9 then
      (fop (FP.dadd v3 v7)).bind fun x2 =>
      (getR h v0 9 48).bind fun x3 =>
      (getR h v0 9 53).bind fun x4 =>
      (ab_ck h v0 (9, 0)).bind fun a8 =>
      bnd (f_X9_rates a8 v1 x2 x3 x4 h) fun _ h6 =>
      f_X9_fourth_79 fuelN v0 v1 v2 v3 v5 v7 0 h6
    else
      (getR h v0 9 48).bind fun x10 =>
      (getR h v0 9 47).bind fun x11 =>
      (aldD h x11 v9).bind fun x12 =>
      (getR h v0 9 52).bind fun x13 =>
      (aldD h x13 v9).bind fun x14 =>
      bnd (f_X9_times v7 x14 h) fun x15 h16 =>
      bnd (f_X9_plus x12 x15 h16) fun x18 h19 =>
      (ab_ck h19 v0 (9, 0)).bind fun a24 =>
      bnd (f_X9_put a24 v1 v9 x18 h19) fun x21 h22 =>
      (astD h22 x10 v9 x21).bind fun h26 =>
      f_X9_fourth_11 n v0 v1 v2 v3 v5 v7 (v9 + 1) h26
set_option maxHeartbeats 4000000 in
set_option maxRecDepth 100000 in
theorem w_X9_fourth_11 {p : Program} {l : Launch} {e : Env} {s : State} {m : MethodId} {args : Array Value} {below : List Frame} {meth : Method} {c : Code} {D : va_G} {cA : Nat → ClassId} {sz : Nat}  {hh : Hp}  (X : ab_X p s m args meth c cX9_fourth 10 RX9 D cA sz) (hr : meth.sig.returnType = none)  (n : Nat) : ∀ (v0 : Option Nat) (v1 : Int32) (v2 : Int32) (v3 : UInt64) (v5 : UInt64) (v7 : UInt64) (v9 : Int32) (h : Hp) (H : Heap) (locs : List Loc) (ls : Array Slot), ab_H D cA sz h s H locs → lv_has ls 10 [(0, va_rf v0), (1, .int v1), (2, .int v2), (3, .double v3), (5, .double v5), (7, .double v7), (9, .int v9)] → f_X9_fourth_11 n v0 v1 v2 v3 v5 v7 v9 h = some ((), hh) → W p l e (ab_rm 6 0 0) s m args below meth c H locs 0 0 (MQ below (ab_Q D cA sz none hh) args s 0 0 (fun q => sz ≤ q)) (F0 m 11 ls []) := by
  induction n with
  | zero => intro v0 v1 v2 v3 v5 v7 v9 h H locs ls S hl hF; cases hF
  | succ n ih =>
    intro v0 v1 v2 v3 v5 v7 v9 h H locs ls S hl hF
    rw [f_X9_fourth_11] at hF
    refine lv_iload X.1 X.2.1 dX9_fourth_11 (lv_at hl 6 rfl) ?_
    refine lv_iload_n X.1 X.2.1 dX9_fourth_13 rfl (lv_at hl 2 rfl) ?_
    refine lv_icmp_ge (tgt := 59) X.1 X.2.1 dX9_fourth_14 (by decide) (fun c1 => ?_) (fun c1 => ?_)
    · have hF := ab_pos c1 hF
      refine ab_aload_n X dX9_fourth_59 rfl (lv_at hl 0 rfl) ?_
      refine lv_iload_n X.1 X.2.1 dX9_fourth_60 rfl (lv_at hl 1 rfl) ?_
      refine lv_dload_n X.1 X.2.1 dX9_fourth_61 rfl (lv_at hl 3 rfl) ?_
      refine lv_dload X.1 X.2.1 dX9_fourth_62 (lv_at hl 5 rfl) ?_
      obtain ⟨x2, ev, ne, hF⟩ := ab_fopx hF
      refine lv_dadd X.1 X.2.1 dX9_fourth_64 ne ?_
      rw [ev]
      refine ab_aload_n X dX9_fourth_65 rfl (lv_at hl 0 rfl) ?_
      refine ab_getR X S hF fi_9_48 lf_X9_149 dX9_fourth_66 (fun x3 hF => ?_)
      refine ab_aload_n X dX9_fourth_69 rfl (lv_at hl 0 rfl) ?_
      refine ab_getR X S hF fi_9_53 lf_X9_164 dX9_fourth_70 (fun x4 hF => ?_)
      obtain ⟨a8, e9, hF⟩ := bind_out hF
      obtain ⟨x5, h6, e7, hF⟩ := bnd_out hF
      refine ab_callVv X S e9 (c_X9_rates l D cA sz e7) rfl (by decide) mi_X9_rates lm_X9_254 li_yX9_rates ls_yX9_rates (As := [.int v1, .double x2, va_rf x3, va_rf x4]) (rest := []) rfl ⟨by decide, by decide⟩ ⟨by decide, by decide⟩ hl.1 rfl (by simp [ab_cat, ab_cI, ab_cJ, ab_cD, ab_cF]) dX9_fourth_73 (fun H1 locs1 S => ?_)
      refine lv_iconst (v := 0) X.1 X.2.1 dX9_fourth_76 (by decide) ?_
      refine lv_istore (lv' := [(9, .int 0), (0, va_rf v0), (1, .int v1), (2, .int v2), (3, .double v3), (5, .double v5), (7, .double v7)]) X.1 X.2.1 dX9_fourth_77 hl (by decide) (by simp [ab_cat, ab_cI, ab_cJ, ab_cD, ab_cF]) (fun ls hl => ?_)
      exact w_X9_fourth_79 X hr  fuelN _ _ _ _ _ _ _ _ _ _ _ S (lv_sub hl [1, 2, 3, 4, 5, 6, 0] rfl) hF
    · have hF := ab_neg c1 hF
      refine ab_aload_n X dX9_fourth_17 rfl (lv_at hl 0 rfl) ?_
      refine ab_getR X S hF fi_9_48 lf_X9_149 dX9_fourth_18 (fun x10 hF => ?_)
      refine lv_iload X.1 X.2.1 dX9_fourth_21 (lv_at hl 6 rfl) ?_
      refine ab_aload_n X dX9_fourth_23 rfl (lv_at hl 0 rfl) ?_
      refine lv_iload_n X.1 X.2.1 dX9_fourth_24 rfl (lv_at hl 1 rfl) ?_
      refine lv_iload X.1 X.2.1 dX9_fourth_25 (lv_at hl 6 rfl) ?_
      refine ab_aload_n X dX9_fourth_27 rfl (lv_at hl 0 rfl) ?_
      refine ab_getR X S hF fi_9_47 lf_X9_146 dX9_fourth_28 (fun x11 hF => ?_)
      refine lv_iload X.1 X.2.1 dX9_fourth_31 (lv_at hl 6 rfl) ?_
      refine ab_aldD X S hF dX9_fourth_33 (fun x12 hF => ?_)
      refine lv_dload X.1 X.2.1 dX9_fourth_34 (lv_at hl 5 rfl) ?_
      refine ab_aload_n X dX9_fourth_36 rfl (lv_at hl 0 rfl) ?_
      refine ab_getR X S hF fi_9_52 lf_X9_161 dX9_fourth_37 (fun x13 hF => ?_)
      refine lv_iload X.1 X.2.1 dX9_fourth_40 (lv_at hl 6 rfl) ?_
      refine ab_aldD X S hF dX9_fourth_42 (fun x14 hF => ?_)
      obtain ⟨x15, h16, e17, hF⟩ := bnd_out hF
      refine ab_callSd X S (c_X9_times l D cA sz e17) mi_X9_times lm_X9_211 lt_yX9_times (As := [.double v7, .double x14]) (rest := [.double x12, .int v9, .int v1, va_rf v0, .int v9, va_rf x10]) rfl ⟨by decide, by decide⟩ ⟨by decide, by decide⟩ hl.1 rfl (by simp [ab_cat, ab_cI, ab_cJ, ab_cD, ab_cF]) dX9_fourth_43 (fun H1 locs1 S => ?_)
      obtain ⟨x18, h19, e20, hF⟩ := bnd_out hF
      refine ab_callSd X S (c_X9_plus l D cA sz e20) mi_X9_plus lm_X9_214 lt_yX9_plus (As := [.double x12, .double x15]) (rest := [.int v9, .int v1, va_rf v0, .int v9, va_rf x10]) rfl ⟨by decide, by decide⟩ ⟨by decide, by decide⟩ hl.1 rfl (by simp [ab_cat, ab_cI, ab_cJ, ab_cD, ab_cF]) dX9_fourth_46 (fun H1 locs1 S => ?_)
      obtain ⟨a24, e25, hF⟩ := bind_out hF
      obtain ⟨x21, h22, e23, hF⟩ := bnd_out hF
      refine ab_callVd X S e25 (c_X9_put l D cA sz e23) rfl (by decide) mi_X9_put lm_X9_281 li_yX9_put ls_yX9_put (As := [.int v1, .int v9, .double x18]) (rest := [.int v9, va_rf x10]) rfl ⟨by decide, by decide⟩ ⟨by decide, by decide⟩ hl.1 rfl (by simp [ab_cat, ab_cI, ab_cJ, ab_cD, ab_cF]) dX9_fourth_49 (fun H1 locs1 S => ?_)
      refine ab_astD X S hF dX9_fourth_52 (fun h26 H1 locs1 hF S => ?_)
      refine lv_iinc (v := v9 + 1) (lv' := [(9, .int (v9 + 1)), (0, va_rf v0), (1, .int v1), (2, .int v2), (3, .double v3), (5, .double v5), (7, .double v7)]) X.1 X.2.1 dX9_fourth_53 hl (k := 6) rfl (by rfl) (by decide) (by simp [ab_cat, ab_cI, ab_cJ, ab_cD, ab_cF]) (fun ls hl => ?_)
      refine lv_goto (tgt := 11) X.1 X.2.1 dX9_fourth_56 (by decide) ?_
      exact ih _ _ _ _ _ _ _ _ _ _ _ S (lv_sub hl [1, 2, 3, 4, 5, 6, 0] rfl) hF
def f_X9_fourth (this : Nat) (p0 : Int32) (p1 : Int32) (p2 : UInt64) (p3 : UInt64) (h : Hp) : Option (Unit × Hp) :=
  (fop (FP.ddiv p3 4611686018427387904)).bind fun x1 =>
  f_X9_fourth_11 fuelN (some this) p0 p1 p2 p3 x1 0 h
theorem mi_X9_fourth : ab_MI yX9_fourth cX9_fourth 10 none 4 := ⟨lc_yX9_fourth, lz_RX9, by decide, by decide, by decide +kernel⟩
set_option maxHeartbeats 4000000 in
set_option maxRecDepth 100000 in
theorem c_X9_fourth (l : Launch) (D : va_G) (cA : Nat → ClassId) (sz : Nat) {this : Nat} {p0 : Int32} {p1 : Int32} {p2 : UInt64} {p3 : UInt64} {h hh : Hp}  (hF : f_X9_fourth this p0 p1 p2 p3 h = some ((), hh)) : ab_C l D cA sz yX9_fourth cX9_fourth 10 none 6 0 0 [.ref this, .int p0, .int p1, .double p2, .double p3] h none hh := by
  refine Met.ofW (cc := cX9_fourth) (maxL := 10) (ret := none) (by decide) rfl ?_
  intro p e s m args below meth c s₁ B hml hv
  obtain ⟨rfl, hT, hR⟩ := hv
  have X : ab_X p s m _ meth c cX9_fourth 10 RX9 D cA sz := (ab_enter B hml hT hR).1
  have S := (ab_enter B hml hT hR).2
  have hr := B.returns
  obtain ⟨ls, hls, hl⟩ := ab_entry m [.ref this, .int p0, .int p1, .double p2, .double p3] 10 (lv := [(0, .ref this), (1, .int p0), (2, .int p1), (3, .double p2), (5, .double p3)]) (by simp [lg_sl, ab_cat, ab_cI, ab_cJ, ab_cD, ab_cF, ab_cA]) (by simp [lv_args, ab_cat, ab_cI, ab_cJ, ab_cD, ab_cF, ab_cA])
  rw [hls]
  have hl : lv_has ls 10 [(0, va_rf (some this)), (1, .int p0), (2, .int p1), (3, .double p2), (5, .double p3)] := hl
  unfold f_X9_fourth at hF
  show W p l e (ab_rm 6 0 0) s m _ below meth c s.heap [] 0 0 _ _
  refine lv_dload X.1 X.2.1 dX9_fourth_0 (lv_at hl 4 rfl) ?_
  refine lv_ldc2d (v := 4611686018427387904) X.1 X.2.1 X.2.2.2.1 (X.2.2.2.2.1 _ ld_X9_285) dX9_fourth_2 ?_
  obtain ⟨x1, ev, ne, hF⟩ := ab_fopx hF
  refine lv_ddiv X.1 X.2.1 dX9_fourth_5 ne ?_
  rw [ev]
  refine lv_dstore (lv' := [(7, .double x1), (0, va_rf (some this)), (1, .int p0), (2, .int p1), (3, .double p2), (5, .double p3)]) X.1 X.2.1 dX9_fourth_6 hl (by decide) (by simp [ab_cat, ab_cI, ab_cJ, ab_cD, ab_cF]) (fun ls hl => ?_)
  refine lv_iconst (v := 0) X.1 X.2.1 dX9_fourth_8 (by decide) ?_
  refine lv_istore (lv' := [(9, .int 0), (7, .double x1), (0, va_rf (some this)), (1, .int p0), (2, .int p1), (3, .double p2), (5, .double p3)]) X.1 X.2.1 dX9_fourth_9 hl (by decide) (by simp [ab_cat, ab_cI, ab_cJ, ab_cD, ab_cF]) (fun ls hl => ?_)
  exact w_X9_fourth_11 X hr  fuelN _ _ _ _ _ _ _ _ _ _ _ S (lv_sub hl [2, 3, 4, 5, 6, 1, 0] rfl) hF
def f_X9_pair_378 (k_269 : Option Nat → Int32 → UInt64 → Int32 → Hp → Option (Unit × Hp)) (v0 : Option Nat) (v2 : Int32) (v5 : UInt64) (v11 : Int32) (u0 : Int32) (u1 : Option Nat) (h : Hp) : Option (Unit × Hp) :=
  (putZ h u1 9 60 u0).bind fun h1 =>
  k_269 v0 v2 v5 (v11 + 1) h1
set_option maxHeartbeats 4000000 in
set_option maxRecDepth 100000 in
theorem w_X9_pair_378 {p : Program} {l : Launch} {e : Env} {s : State} {m : MethodId} {args : Array Value} {below : List Frame} {meth : Method} {c : Code} {D : va_G} {cA : Nat → ClassId} {sz : Nat}  {hh : Hp} {k_269 : Option Nat → Int32 → UInt64 → Int32 → Hp → Option (Unit × Hp)} (X : ab_X p s m args meth c cX9_pair 12 RX9 D cA sz) (hr : meth.sig.returnType = none) (hk_269 : ∀ (v0 : Option Nat) (v2 : Int32) (v5 : UInt64) (v11 : Int32) (h : Hp) (H : Heap) (locs : List Loc) (ls : Array Slot), ab_H D cA sz h s H locs → lv_has ls 12 [(0, va_rf v0), (2, .int v2), (5, .double v5), (11, .int v11)] → k_269 v0 v2 v5 v11 h = some ((), hh) → W p l e (ab_rm 6 0 0) s m args below meth c H locs 0 0 (MQ below (ab_Q D cA sz none hh) args s 0 0 (fun q => sz ≤ q)) (F0 m 269 ls [])) {H : Heap} {locs : List Loc} {ls : Array Slot} {v0 : Option Nat} {v2 : Int32} {v5 : UInt64} {v11 : Int32} {u0 : Int32} {u1 : Option Nat} {h : Hp} (S : ab_H D cA sz h s H locs) (hl : lv_has ls 12 [(0, va_rf v0), (2, .int v2), (5, .double v5), (11, .int v11)]) (hF : f_X9_pair_378 k_269 v0 v2 v5 v11 u0 u1 h = some ((), hh)) : W p l e (ab_rm 6 0 0) s m args below meth c H locs 0 0 (MQ below (ab_Q D cA sz none hh) args s 0 0 (fun q => sz ≤ q)) (F0 m 378 ls [.int u0, va_rf u1]) := by
  unfold f_X9_pair_378 at hF
  refine ab_putZ X S hF fi_9_60 ci_9 (Or.inl rfl) rfl lf_X9_246 dX9_pair_378 (fun h1 H1 locs1 hF S => ?_)
  refine lv_iinc (v := v11 + 1) (lv' := [(11, .int (v11 + 1)), (0, va_rf v0), (2, .int v2), (5, .double v5)]) X.1 X.2.1 dX9_pair_381 hl (k := 3) rfl (by rfl) (by decide) (by simp [ab_cat, ab_cI, ab_cJ, ab_cD, ab_cF]) (fun ls hl => ?_)
  refine lv_goto (tgt := 269) X.1 X.2.1 dX9_pair_384 (by decide) ?_
  exact hk_269 _ _ _ _ _ _ _ _ S (lv_sub hl [1, 2, 3, 0] rfl) hF
def f_X9_pair_373 (k_269 : Option Nat → Int32 → UInt64 → Int32 → Hp → Option (Unit × Hp)) (v0 : Option Nat) (v2 : Int32) (v5 : UInt64) (v11 : Int32) (u0 : Option Nat) (h : Hp) : Option (Unit × Hp) :=
  f_X9_pair_378 k_269 v0 v2 v5 v11 1 u0 h
set_option maxHeartbeats 4000000 in
set_option maxRecDepth 100000 in
theorem w_X9_pair_373 {p : Program} {l : Launch} {e : Env} {s : State} {m : MethodId} {args : Array Value} {below : List Frame} {meth : Method} {c : Code} {D : va_G} {cA : Nat → ClassId} {sz : Nat}  {hh : Hp} {k_269 : Option Nat → Int32 → UInt64 → Int32 → Hp → Option (Unit × Hp)} (X : ab_X p s m args meth c cX9_pair 12 RX9 D cA sz) (hr : meth.sig.returnType = none) (hk_269 : ∀ (v0 : Option Nat) (v2 : Int32) (v5 : UInt64) (v11 : Int32) (h : Hp) (H : Heap) (locs : List Loc) (ls : Array Slot), ab_H D cA sz h s H locs → lv_has ls 12 [(0, va_rf v0), (2, .int v2), (5, .double v5), (11, .int v11)] → k_269 v0 v2 v5 v11 h = some ((), hh) → W p l e (ab_rm 6 0 0) s m args below meth c H locs 0 0 (MQ below (ab_Q D cA sz none hh) args s 0 0 (fun q => sz ≤ q)) (F0 m 269 ls [])) {H : Heap} {locs : List Loc} {ls : Array Slot} {v0 : Option Nat} {v2 : Int32} {v5 : UInt64} {v11 : Int32} {u0 : Option Nat} {h : Hp} (S : ab_H D cA sz h s H locs) (hl : lv_has ls 12 [(0, va_rf v0), (2, .int v2), (5, .double v5), (11, .int v11)]) (hF : f_X9_pair_373 k_269 v0 v2 v5 v11 u0 h = some ((), hh)) : W p l e (ab_rm 6 0 0) s m args below meth c H locs 0 0 (MQ below (ab_Q D cA sz none hh) args s 0 0 (fun q => sz ≤ q)) (F0 m 373 ls [va_rf u0]) := by
  unfold f_X9_pair_373 at hF
  refine lv_iconst (v := 1) X.1 X.2.1 dX9_pair_373 (by decide) ?_
  refine lv_goto (tgt := 378) X.1 X.2.1 dX9_pair_374 (by decide) ?_
  exact w_X9_pair_378 X hr hk_269 S (lv_sub hl [0, 1, 2, 3] rfl) hF
def f_X9_pair_269  : Nat → Option Nat → Int32 → UInt64 → Int32 → Hp → Option (Unit × Hp)
  | 0, _, _, _, _, _ => none
  | n + 1, v0, v2, v5, v11, h => if v2 ≤ v11 then
      some ((), h)
    else
      (getR h v0 9 51).bind fun x2 =>
      (fop (FP.ddiv v5 4634766966517661696)).bind fun x3 =>
      (getR h v0 9 53).bind fun x4 =>
      (aldD h x4 v11).bind fun x5 =>
      bnd (f_X9_times 4618441417868443648 x5 h) fun x6 h7 =>
      (getR h7 v0 9 54).bind fun x9 =>
      (aldD h7 x9 v11).bind fun x10 =>
      bnd (f_X9_times 4620693217682128896 x10 h7) fun x11 h12 =>
      bnd (f_X9_plus x6 x11 h12) fun x14 h15 =>
      (getR h15 v0 9 52).bind fun x17 =>
      (aldD h15 x17 v11).bind fun x18 =>
      bnd (f_X9_times 4617315517961601024 x18 h15) fun x19 h20 =>
      bnd (f_X9_less x14 x19 h20) fun x22 h23 =>
      (getR h23 v0 9 55).bind fun x25 =>
      (aldD h23 x25 v11).bind fun x26 =>
      bnd (f_X9_times 4621256167635550208 x26 h23) fun x27 h28 =>
      bnd (f_X9_less x22 x27 h28) fun x30 h31 =>
      bnd (f_X9_times x3 x30 h31) fun x33 h34 =>
      (astD h34 x2 v11 x33).bind fun h36 =>
      (getI h36 v0 9 60).bind fun x37 =>
      if ¬ x37 = 0 then
        f_X9_pair_373 (f_X9_pair_269 n) v0 v2 v5 v11 v0 h36
      else
        (getR h36 v0 9 51).bind fun x39 =>
        (aldD h36 x39 v11).bind fun x40 =>
        bnd (f_X9_isFinite x40 h36) fun x41 h42 =>
        if ¬ x41 = 0 then
          f_X9_pair_378 (f_X9_pair_269 n) v0 v2 v5 v11 0 v0 h42
        else
          f_X9_pair_373 (f_X9_pair_269 n) v0 v2 v5 v11 v0 h42
set_option maxHeartbeats 4000000 in
set_option maxRecDepth 100000 in
theorem w_X9_pair_269 {p : Program} {l : Launch} {e : Env} {s : State} {m : MethodId} {args : Array Value} {below : List Frame} {meth : Method} {c : Code} {D : va_G} {cA : Nat → ClassId} {sz : Nat}  {hh : Hp}  (X : ab_X p s m args meth c cX9_pair 12 RX9 D cA sz) (hr : meth.sig.returnType = none)  (n : Nat) : ∀ (v0 : Option Nat) (v2 : Int32) (v5 : UInt64) (v11 : Int32) (h : Hp) (H : Heap) (locs : List Loc) (ls : Array Slot), ab_H D cA sz h s H locs → lv_has ls 12 [(0, va_rf v0), (2, .int v2), (5, .double v5), (11, .int v11)] → f_X9_pair_269 n v0 v2 v5 v11 h = some ((), hh) → W p l e (ab_rm 6 0 0) s m args below meth c H locs 0 0 (MQ below (ab_Q D cA sz none hh) args s 0 0 (fun q => sz ≤ q)) (F0 m 269 ls []) := by
  induction n with
  | zero => intro v0 v2 v5 v11 h H locs ls S hl hF; cases hF
  | succ n ih =>
    intro v0 v2 v5 v11 h H locs ls S hl hF
    rw [f_X9_pair_269] at hF
    refine lv_iload X.1 X.2.1 dX9_pair_269 (lv_at hl 3 rfl) ?_
    refine lv_iload_n X.1 X.2.1 dX9_pair_271 rfl (lv_at hl 1 rfl) ?_
    refine lv_icmp_ge (tgt := 387) X.1 X.2.1 dX9_pair_272 (by decide) (fun c1 => ?_) (fun c1 => ?_)
    · have hF := ab_pos c1 hF
      exact ab_vret X S hr hF dX9_pair_387
    · have hF := ab_neg c1 hF
      refine ab_aload_n X dX9_pair_275 rfl (lv_at hl 0 rfl) ?_
      refine ab_getR X S hF fi_9_51 lf_X9_158 dX9_pair_276 (fun x2 hF => ?_)
      refine lv_iload X.1 X.2.1 dX9_pair_279 (lv_at hl 3 rfl) ?_
      refine lv_dload X.1 X.2.1 dX9_pair_281 (lv_at hl 2 rfl) ?_
      refine lv_ldc2d (v := 4634766966517661696) X.1 X.2.1 X.2.2.2.1 (X.2.2.2.2.1 _ ld_X9_295) dX9_pair_283 ?_
      obtain ⟨x3, ev, ne, hF⟩ := ab_fopx hF
      refine lv_ddiv X.1 X.2.1 dX9_pair_286 ne ?_
      rw [ev]
      refine lv_ldc2d (v := 4618441417868443648) X.1 X.2.1 X.2.2.2.1 (X.2.2.2.2.1 _ ld_X9_287) dX9_pair_287 ?_
      refine ab_aload_n X dX9_pair_290 rfl (lv_at hl 0 rfl) ?_
      refine ab_getR X S hF fi_9_53 lf_X9_164 dX9_pair_291 (fun x4 hF => ?_)
      refine lv_iload X.1 X.2.1 dX9_pair_294 (lv_at hl 3 rfl) ?_
      refine ab_aldD X S hF dX9_pair_296 (fun x5 hF => ?_)
      obtain ⟨x6, h7, e8, hF⟩ := bnd_out hF
      refine ab_callSd X S (c_X9_times l D cA sz e8) mi_X9_times lm_X9_211 lt_yX9_times (As := [.double 4618441417868443648, .double x5]) (rest := [.double x3, .int v11, va_rf x2]) rfl ⟨by decide, by decide⟩ ⟨by decide, by decide⟩ hl.1 rfl (by simp [ab_cat, ab_cI, ab_cJ, ab_cD, ab_cF]) dX9_pair_297 (fun H1 locs1 S => ?_)
      refine lv_ldc2d (v := 4620693217682128896) X.1 X.2.1 X.2.2.2.1 (X.2.2.2.2.1 _ ld_X9_297) dX9_pair_300 ?_
      refine ab_aload_n X dX9_pair_303 rfl (lv_at hl 0 rfl) ?_
      refine ab_getR X S hF fi_9_54 lf_X9_167 dX9_pair_304 (fun x9 hF => ?_)
      refine lv_iload X.1 X.2.1 dX9_pair_307 (lv_at hl 3 rfl) ?_
      refine ab_aldD X S hF dX9_pair_309 (fun x10 hF => ?_)
      obtain ⟨x11, h12, e13, hF⟩ := bnd_out hF
      refine ab_callSd X S (c_X9_times l D cA sz e13) mi_X9_times lm_X9_211 lt_yX9_times (As := [.double 4620693217682128896, .double x10]) (rest := [.double x6, .double x3, .int v11, va_rf x2]) rfl ⟨by decide, by decide⟩ ⟨by decide, by decide⟩ hl.1 rfl (by simp [ab_cat, ab_cI, ab_cJ, ab_cD, ab_cF]) dX9_pair_310 (fun H1 locs1 S => ?_)
      obtain ⟨x14, h15, e16, hF⟩ := bnd_out hF
      refine ab_callSd X S (c_X9_plus l D cA sz e16) mi_X9_plus lm_X9_214 lt_yX9_plus (As := [.double x6, .double x11]) (rest := [.double x3, .int v11, va_rf x2]) rfl ⟨by decide, by decide⟩ ⟨by decide, by decide⟩ hl.1 rfl (by simp [ab_cat, ab_cI, ab_cJ, ab_cD, ab_cF]) dX9_pair_313 (fun H1 locs1 S => ?_)
      refine lv_ldc2d (v := 4617315517961601024) X.1 X.2.1 X.2.2.2.1 (X.2.2.2.2.1 _ ld_X9_299) dX9_pair_316 ?_
      refine ab_aload_n X dX9_pair_319 rfl (lv_at hl 0 rfl) ?_
      refine ab_getR X S hF fi_9_52 lf_X9_161 dX9_pair_320 (fun x17 hF => ?_)
      refine lv_iload X.1 X.2.1 dX9_pair_323 (lv_at hl 3 rfl) ?_
      refine ab_aldD X S hF dX9_pair_325 (fun x18 hF => ?_)
      obtain ⟨x19, h20, e21, hF⟩ := bnd_out hF
      refine ab_callSd X S (c_X9_times l D cA sz e21) mi_X9_times lm_X9_211 lt_yX9_times (As := [.double 4617315517961601024, .double x18]) (rest := [.double x14, .double x3, .int v11, va_rf x2]) rfl ⟨by decide, by decide⟩ ⟨by decide, by decide⟩ hl.1 rfl (by simp [ab_cat, ab_cI, ab_cJ, ab_cD, ab_cF]) dX9_pair_326 (fun H1 locs1 S => ?_)
      obtain ⟨x22, h23, e24, hF⟩ := bnd_out hF
      refine ab_callSd X S (c_X9_less l D cA sz e24) mi_X9_less lm_X9_204 lt_yX9_less (As := [.double x14, .double x19]) (rest := [.double x3, .int v11, va_rf x2]) rfl ⟨by decide, by decide⟩ ⟨by decide, by decide⟩ hl.1 rfl (by simp [ab_cat, ab_cI, ab_cJ, ab_cD, ab_cF]) dX9_pair_329 (fun H1 locs1 S => ?_)
      refine lv_ldc2d (v := 4621256167635550208) X.1 X.2.1 X.2.2.2.1 (X.2.2.2.2.1 _ ld_X9_293) dX9_pair_332 ?_
      refine ab_aload_n X dX9_pair_335 rfl (lv_at hl 0 rfl) ?_
      refine ab_getR X S hF fi_9_55 lf_X9_170 dX9_pair_336 (fun x25 hF => ?_)
      refine lv_iload X.1 X.2.1 dX9_pair_339 (lv_at hl 3 rfl) ?_
      refine ab_aldD X S hF dX9_pair_341 (fun x26 hF => ?_)
      obtain ⟨x27, h28, e29, hF⟩ := bnd_out hF
      refine ab_callSd X S (c_X9_times l D cA sz e29) mi_X9_times lm_X9_211 lt_yX9_times (As := [.double 4621256167635550208, .double x26]) (rest := [.double x22, .double x3, .int v11, va_rf x2]) rfl ⟨by decide, by decide⟩ ⟨by decide, by decide⟩ hl.1 rfl (by simp [ab_cat, ab_cI, ab_cJ, ab_cD, ab_cF]) dX9_pair_342 (fun H1 locs1 S => ?_)
      obtain ⟨x30, h31, e32, hF⟩ := bnd_out hF
      refine ab_callSd X S (c_X9_less l D cA sz e32) mi_X9_less lm_X9_204 lt_yX9_less (As := [.double x22, .double x27]) (rest := [.double x3, .int v11, va_rf x2]) rfl ⟨by decide, by decide⟩ ⟨by decide, by decide⟩ hl.1 rfl (by simp [ab_cat, ab_cI, ab_cJ, ab_cD, ab_cF]) dX9_pair_345 (fun H1 locs1 S => ?_)
      obtain ⟨x33, h34, e35, hF⟩ := bnd_out hF
      refine ab_callSd X S (c_X9_times l D cA sz e35) mi_X9_times lm_X9_211 lt_yX9_times (As := [.double x3, .double x30]) (rest := [.int v11, va_rf x2]) rfl ⟨by decide, by decide⟩ ⟨by decide, by decide⟩ hl.1 rfl (by simp [ab_cat, ab_cI, ab_cJ, ab_cD, ab_cF]) dX9_pair_348 (fun H1 locs1 S => ?_)
      refine ab_astD X S hF dX9_pair_351 (fun h36 H1 locs1 hF S => ?_)
      refine ab_aload_n X dX9_pair_352 rfl (lv_at hl 0 rfl) ?_
      refine ab_aload_n X dX9_pair_353 rfl (lv_at hl 0 rfl) ?_
      refine ab_getI X S hF fi_9_60 lf_X9_246 dX9_pair_354 (fun x37 hF => ?_)
      refine lv_if_ne (tgt := 373) X.1 X.2.1 dX9_pair_357 (by decide) (fun c38 => ?_) (fun c38 => ?_)
      · have hF := ab_pos c38 hF
        exact w_X9_pair_373 X hr ih S (lv_sub hl [0, 1, 2, 3] rfl) hF
      · have hF := ab_neg (fun q => q c38) hF
        refine ab_aload_n X dX9_pair_360 rfl (lv_at hl 0 rfl) ?_
        refine ab_getR X S hF fi_9_51 lf_X9_158 dX9_pair_361 (fun x39 hF => ?_)
        refine lv_iload X.1 X.2.1 dX9_pair_364 (lv_at hl 3 rfl) ?_
        refine ab_aldD X S hF dX9_pair_366 (fun x40 hF => ?_)
        obtain ⟨x41, h42, e43, hF⟩ := bnd_out hF
        refine ab_callSi X S (c_X9_isFinite l D cA sz e43) mi_X9_isFinite lm_X9_193 lt_yX9_isFinite (As := [.double x40]) (rest := [va_rf v0]) rfl ⟨by decide, by decide⟩ ⟨by decide, by decide⟩ hl.1 rfl (by simp [ab_cat, ab_cI, ab_cJ, ab_cD, ab_cF]) dX9_pair_367 (fun H1 locs1 S => ?_)
        refine lv_if_ne (tgt := 377) X.1 X.2.1 dX9_pair_370 (by decide) (fun c44 => ?_) (fun c44 => ?_)
        · have hF := ab_pos c44 hF
          refine lv_iconst (v := 0) X.1 X.2.1 dX9_pair_377 (by decide) ?_
          exact w_X9_pair_378 X hr ih S (lv_sub hl [0, 1, 2, 3] rfl) hF
        · have hF := ab_neg (fun q => q c44) hF
          exact w_X9_pair_373 X hr ih S (lv_sub hl [0, 1, 2, 3] rfl) hF
def f_X9_pair_159  : Nat → Option Nat → Int32 → Int32 → UInt64 → UInt64 → Int32 → Hp → Option (Unit × Hp)
  | 0, _, _, _, _, _, _, _ => none
  | n + 1, v0, v1, v2, v3, v5, v11, h => if v2 ≤ v11 then
      (fop (FP.dadd v3 v5)).bind fun x2 =>
      (getR h v0 9 49).bind fun x3 =>
      (getR h v0 9 55).bind fun x4 =>
      (ab_ck h v0 (9, 0)).bind fun a8 =>
      bnd (f_X9_rates a8 v1 x2 x3 x4 h) fun _ h6 =>
      f_X9_pair_269 fuelN v0 v2 v5 0 h6
    else
      (getR h v0 9 49).bind fun x10 =>
      (getR h v0 9 47).bind fun x11 =>
      (aldD h x11 v11).bind fun x12 =>
      (fop (FP.ddiv v5 4621256167635550208)).bind fun x13 =>
      (getR h v0 9 52).bind fun x14 =>
      (aldD h x14 v11).bind fun x15 =>
      bnd (f_X9_times 4611686018427387904 x15 h) fun x16 h17 =>
      (getR h17 v0 9 53).bind fun x19 =>
      (aldD h17 x19 v11).bind fun x20 =>
      bnd (f_X9_times 4613937818241073152 x20 h17) fun x21 h22 =>
      bnd (f_X9_plus x16 x21 h22) fun x24 h25 =>
      (getR h25 v0 9 54).bind fun x27 =>
      (aldD h25 x27 v11).bind fun x28 =>
      bnd (f_X9_times 4616189618054758400 x28 h25) fun x29 h30 =>
      bnd (f_X9_plus x24 x29 h30) fun x32 h33 =>
      bnd (f_X9_times x13 x32 h33) fun x35 h36 =>
      bnd (f_X9_plus x12 x35 h36) fun x38 h39 =>
      (ab_ck h39 v0 (9, 0)).bind fun a44 =>
      bnd (f_X9_put a44 v1 v11 x38 h39) fun x41 h42 =>
      (astD h42 x10 v11 x41).bind fun h46 =>
      f_X9_pair_159 n v0 v1 v2 v3 v5 (v11 + 1) h46
set_option maxHeartbeats 4000000 in
set_option maxRecDepth 100000 in
theorem w_X9_pair_159 {p : Program} {l : Launch} {e : Env} {s : State} {m : MethodId} {args : Array Value} {below : List Frame} {meth : Method} {c : Code} {D : va_G} {cA : Nat → ClassId} {sz : Nat}  {hh : Hp}  (X : ab_X p s m args meth c cX9_pair 12 RX9 D cA sz) (hr : meth.sig.returnType = none)  (n : Nat) : ∀ (v0 : Option Nat) (v1 : Int32) (v2 : Int32) (v3 : UInt64) (v5 : UInt64) (v11 : Int32) (h : Hp) (H : Heap) (locs : List Loc) (ls : Array Slot), ab_H D cA sz h s H locs → lv_has ls 12 [(0, va_rf v0), (1, .int v1), (2, .int v2), (3, .double v3), (5, .double v5), (11, .int v11)] → f_X9_pair_159 n v0 v1 v2 v3 v5 v11 h = some ((), hh) → W p l e (ab_rm 6 0 0) s m args below meth c H locs 0 0 (MQ below (ab_Q D cA sz none hh) args s 0 0 (fun q => sz ≤ q)) (F0 m 159 ls []) := by
  induction n with
  | zero => intro v0 v1 v2 v3 v5 v11 h H locs ls S hl hF; cases hF
  | succ n ih =>
    intro v0 v1 v2 v3 v5 v11 h H locs ls S hl hF
    rw [f_X9_pair_159] at hF
    refine lv_iload X.1 X.2.1 dX9_pair_159 (lv_at hl 5 rfl) ?_
    refine lv_iload_n X.1 X.2.1 dX9_pair_161 rfl (lv_at hl 2 rfl) ?_
    refine lv_icmp_ge (tgt := 249) X.1 X.2.1 dX9_pair_162 (by decide) (fun c1 => ?_) (fun c1 => ?_)
    · have hF := ab_pos c1 hF
      refine ab_aload_n X dX9_pair_249 rfl (lv_at hl 0 rfl) ?_
      refine lv_iload_n X.1 X.2.1 dX9_pair_250 rfl (lv_at hl 1 rfl) ?_
      refine lv_dload_n X.1 X.2.1 dX9_pair_251 rfl (lv_at hl 3 rfl) ?_
      refine lv_dload X.1 X.2.1 dX9_pair_252 (lv_at hl 4 rfl) ?_
      obtain ⟨x2, ev, ne, hF⟩ := ab_fopx hF
      refine lv_dadd X.1 X.2.1 dX9_pair_254 ne ?_
      rw [ev]
      refine ab_aload_n X dX9_pair_255 rfl (lv_at hl 0 rfl) ?_
      refine ab_getR X S hF fi_9_49 lf_X9_152 dX9_pair_256 (fun x3 hF => ?_)
      refine ab_aload_n X dX9_pair_259 rfl (lv_at hl 0 rfl) ?_
      refine ab_getR X S hF fi_9_55 lf_X9_170 dX9_pair_260 (fun x4 hF => ?_)
      obtain ⟨a8, e9, hF⟩ := bind_out hF
      obtain ⟨x5, h6, e7, hF⟩ := bnd_out hF
      refine ab_callVv X S e9 (c_X9_rates l D cA sz e7) rfl (by decide) mi_X9_rates lm_X9_254 li_yX9_rates ls_yX9_rates (As := [.int v1, .double x2, va_rf x3, va_rf x4]) (rest := []) rfl ⟨by decide, by decide⟩ ⟨by decide, by decide⟩ hl.1 rfl (by simp [ab_cat, ab_cI, ab_cJ, ab_cD, ab_cF]) dX9_pair_263 (fun H1 locs1 S => ?_)
      refine lv_iconst (v := 0) X.1 X.2.1 dX9_pair_266 (by decide) ?_
      refine lv_istore (lv' := [(11, .int 0), (0, va_rf v0), (1, .int v1), (2, .int v2), (3, .double v3), (5, .double v5)]) X.1 X.2.1 dX9_pair_267 hl (by decide) (by simp [ab_cat, ab_cI, ab_cJ, ab_cD, ab_cF]) (fun ls hl => ?_)
      exact w_X9_pair_269 X hr  fuelN _ _ _ _ _ _ _ _ S (lv_sub hl [1, 3, 5, 0] rfl) hF
    · have hF := ab_neg c1 hF
      refine ab_aload_n X dX9_pair_165 rfl (lv_at hl 0 rfl) ?_
      refine ab_getR X S hF fi_9_49 lf_X9_152 dX9_pair_166 (fun x10 hF => ?_)
      refine lv_iload X.1 X.2.1 dX9_pair_169 (lv_at hl 5 rfl) ?_
      refine ab_aload_n X dX9_pair_171 rfl (lv_at hl 0 rfl) ?_
      refine lv_iload_n X.1 X.2.1 dX9_pair_172 rfl (lv_at hl 1 rfl) ?_
      refine lv_iload X.1 X.2.1 dX9_pair_173 (lv_at hl 5 rfl) ?_
      refine ab_aload_n X dX9_pair_175 rfl (lv_at hl 0 rfl) ?_
      refine ab_getR X S hF fi_9_47 lf_X9_146 dX9_pair_176 (fun x11 hF => ?_)
      refine lv_iload X.1 X.2.1 dX9_pair_179 (lv_at hl 5 rfl) ?_
      refine ab_aldD X S hF dX9_pair_181 (fun x12 hF => ?_)
      refine lv_dload X.1 X.2.1 dX9_pair_182 (lv_at hl 4 rfl) ?_
      refine lv_ldc2d (v := 4621256167635550208) X.1 X.2.1 X.2.2.2.1 (X.2.2.2.2.1 _ ld_X9_293) dX9_pair_184 ?_
      obtain ⟨x13, ev, ne, hF⟩ := ab_fopx hF
      refine lv_ddiv X.1 X.2.1 dX9_pair_187 ne ?_
      rw [ev]
      refine lv_ldc2d (v := 4611686018427387904) X.1 X.2.1 X.2.2.2.1 (X.2.2.2.2.1 _ ld_X9_285) dX9_pair_188 ?_
      refine ab_aload_n X dX9_pair_191 rfl (lv_at hl 0 rfl) ?_
      refine ab_getR X S hF fi_9_52 lf_X9_161 dX9_pair_192 (fun x14 hF => ?_)
      refine lv_iload X.1 X.2.1 dX9_pair_195 (lv_at hl 5 rfl) ?_
      refine ab_aldD X S hF dX9_pair_197 (fun x15 hF => ?_)
      obtain ⟨x16, h17, e18, hF⟩ := bnd_out hF
      refine ab_callSd X S (c_X9_times l D cA sz e18) mi_X9_times lm_X9_211 lt_yX9_times (As := [.double 4611686018427387904, .double x15]) (rest := [.double x13, .double x12, .int v11, .int v1, va_rf v0, .int v11, va_rf x10]) rfl ⟨by decide, by decide⟩ ⟨by decide, by decide⟩ hl.1 rfl (by simp [ab_cat, ab_cI, ab_cJ, ab_cD, ab_cF]) dX9_pair_198 (fun H1 locs1 S => ?_)
      refine lv_ldc2d (v := 4613937818241073152) X.1 X.2.1 X.2.2.2.1 (X.2.2.2.2.1 _ ld_X9_291) dX9_pair_201 ?_
      refine ab_aload_n X dX9_pair_204 rfl (lv_at hl 0 rfl) ?_
      refine ab_getR X S hF fi_9_53 lf_X9_164 dX9_pair_205 (fun x19 hF => ?_)
      refine lv_iload X.1 X.2.1 dX9_pair_208 (lv_at hl 5 rfl) ?_
      refine ab_aldD X S hF dX9_pair_210 (fun x20 hF => ?_)
      obtain ⟨x21, h22, e23, hF⟩ := bnd_out hF
      refine ab_callSd X S (c_X9_times l D cA sz e23) mi_X9_times lm_X9_211 lt_yX9_times (As := [.double 4613937818241073152, .double x20]) (rest := [.double x16, .double x13, .double x12, .int v11, .int v1, va_rf v0, .int v11, va_rf x10]) rfl ⟨by decide, by decide⟩ ⟨by decide, by decide⟩ hl.1 rfl (by simp [ab_cat, ab_cI, ab_cJ, ab_cD, ab_cF]) dX9_pair_211 (fun H1 locs1 S => ?_)
      obtain ⟨x24, h25, e26, hF⟩ := bnd_out hF
      refine ab_callSd X S (c_X9_plus l D cA sz e26) mi_X9_plus lm_X9_214 lt_yX9_plus (As := [.double x16, .double x21]) (rest := [.double x13, .double x12, .int v11, .int v1, va_rf v0, .int v11, va_rf x10]) rfl ⟨by decide, by decide⟩ ⟨by decide, by decide⟩ hl.1 rfl (by simp [ab_cat, ab_cI, ab_cJ, ab_cD, ab_cF]) dX9_pair_214 (fun H1 locs1 S => ?_)
      refine lv_ldc2d (v := 4616189618054758400) X.1 X.2.1 X.2.2.2.1 (X.2.2.2.2.1 _ ld_X9_289) dX9_pair_217 ?_
      refine ab_aload_n X dX9_pair_220 rfl (lv_at hl 0 rfl) ?_
      refine ab_getR X S hF fi_9_54 lf_X9_167 dX9_pair_221 (fun x27 hF => ?_)
      refine lv_iload X.1 X.2.1 dX9_pair_224 (lv_at hl 5 rfl) ?_
      refine ab_aldD X S hF dX9_pair_226 (fun x28 hF => ?_)
      obtain ⟨x29, h30, e31, hF⟩ := bnd_out hF
      refine ab_callSd X S (c_X9_times l D cA sz e31) mi_X9_times lm_X9_211 lt_yX9_times (As := [.double 4616189618054758400, .double x28]) (rest := [.double x24, .double x13, .double x12, .int v11, .int v1, va_rf v0, .int v11, va_rf x10]) rfl ⟨by decide, by decide⟩ ⟨by decide, by decide⟩ hl.1 rfl (by simp [ab_cat, ab_cI, ab_cJ, ab_cD, ab_cF]) dX9_pair_227 (fun H1 locs1 S => ?_)
      obtain ⟨x32, h33, e34, hF⟩ := bnd_out hF
      refine ab_callSd X S (c_X9_plus l D cA sz e34) mi_X9_plus lm_X9_214 lt_yX9_plus (As := [.double x24, .double x29]) (rest := [.double x13, .double x12, .int v11, .int v1, va_rf v0, .int v11, va_rf x10]) rfl ⟨by decide, by decide⟩ ⟨by decide, by decide⟩ hl.1 rfl (by simp [ab_cat, ab_cI, ab_cJ, ab_cD, ab_cF]) dX9_pair_230 (fun H1 locs1 S => ?_)
      obtain ⟨x35, h36, e37, hF⟩ := bnd_out hF
      refine ab_callSd X S (c_X9_times l D cA sz e37) mi_X9_times lm_X9_211 lt_yX9_times (As := [.double x13, .double x32]) (rest := [.double x12, .int v11, .int v1, va_rf v0, .int v11, va_rf x10]) rfl ⟨by decide, by decide⟩ ⟨by decide, by decide⟩ hl.1 rfl (by simp [ab_cat, ab_cI, ab_cJ, ab_cD, ab_cF]) dX9_pair_233 (fun H1 locs1 S => ?_)
      obtain ⟨x38, h39, e40, hF⟩ := bnd_out hF
      refine ab_callSd X S (c_X9_plus l D cA sz e40) mi_X9_plus lm_X9_214 lt_yX9_plus (As := [.double x12, .double x35]) (rest := [.int v11, .int v1, va_rf v0, .int v11, va_rf x10]) rfl ⟨by decide, by decide⟩ ⟨by decide, by decide⟩ hl.1 rfl (by simp [ab_cat, ab_cI, ab_cJ, ab_cD, ab_cF]) dX9_pair_236 (fun H1 locs1 S => ?_)
      obtain ⟨a44, e45, hF⟩ := bind_out hF
      obtain ⟨x41, h42, e43, hF⟩ := bnd_out hF
      refine ab_callVd X S e45 (c_X9_put l D cA sz e43) rfl (by decide) mi_X9_put lm_X9_281 li_yX9_put ls_yX9_put (As := [.int v1, .int v11, .double x38]) (rest := [.int v11, va_rf x10]) rfl ⟨by decide, by decide⟩ ⟨by decide, by decide⟩ hl.1 rfl (by simp [ab_cat, ab_cI, ab_cJ, ab_cD, ab_cF]) dX9_pair_239 (fun H1 locs1 S => ?_)
      refine ab_astD X S hF dX9_pair_242 (fun h46 H1 locs1 hF S => ?_)
      refine lv_iinc (v := v11 + 1) (lv' := [(11, .int (v11 + 1)), (0, va_rf v0), (1, .int v1), (2, .int v2), (3, .double v3), (5, .double v5)]) X.1 X.2.1 dX9_pair_243 hl (k := 5) rfl (by rfl) (by decide) (by simp [ab_cat, ab_cI, ab_cJ, ab_cD, ab_cF]) (fun ls hl => ?_)
      refine lv_goto (tgt := 159) X.1 X.2.1 dX9_pair_246 (by decide) ?_
      exact ih _ _ _ _ _ _ _ _ _ _ S (lv_sub hl [1, 2, 3, 4, 5, 0] rfl) hF
def f_X9_pair_91  : Nat → Option Nat → Int32 → Int32 → UInt64 → UInt64 → UInt64 → Int32 → Hp → Option (Unit × Hp)
  | 0, _, _, _, _, _, _, _, _ => none
  | n + 1, v0, v1, v2, v3, v5, v9, v11, h => if v2 ≤ v11 then
      (fop (FP.dadd v3 v9)).bind fun x2 =>
      (getR h v0 9 48).bind fun x3 =>
      (getR h v0 9 54).bind fun x4 =>
      (ab_ck h v0 (9, 0)).bind fun a8 =>
      bnd (f_X9_rates a8 v1 x2 x3 x4 h) fun _ h6 =>
      f_X9_pair_159 fuelN v0 v1 v2 v3 v5 0 h6
    else
      (getR h v0 9 48).bind fun x10 =>
      (getR h v0 9 47).bind fun x11 =>
      (aldD h x11 v11).bind fun x12 =>
      (getR h v0 9 53).bind fun x13 =>
      (aldD h x13 v11).bind fun x14 =>
      bnd (f_X9_times v9 x14 h) fun x15 h16 =>
      bnd (f_X9_plus x12 x15 h16) fun x18 h19 =>
      (ab_ck h19 v0 (9, 0)).bind fun a24 =>
      bnd (f_X9_put a24 v1 v11 x18 h19) fun x21 h22 =>
      (astD h22 x10 v11 x21).bind fun h26 =>
      f_X9_pair_91 n v0 v1 v2 v3 v5 v9 (v11 + 1) h26
set_option maxHeartbeats 4000000 in
set_option maxRecDepth 100000 in
theorem w_X9_pair_91 {p : Program} {l : Launch} {e : Env} {s : State} {m : MethodId} {args : Array Value} {below : List Frame} {meth : Method} {c : Code} {D : va_G} {cA : Nat → ClassId} {sz : Nat}  {hh : Hp}  (X : ab_X p s m args meth c cX9_pair 12 RX9 D cA sz) (hr : meth.sig.returnType = none)  (n : Nat) : ∀ (v0 : Option Nat) (v1 : Int32) (v2 : Int32) (v3 : UInt64) (v5 : UInt64) (v9 : UInt64) (v11 : Int32) (h : Hp) (H : Heap) (locs : List Loc) (ls : Array Slot), ab_H D cA sz h s H locs → lv_has ls 12 [(0, va_rf v0), (1, .int v1), (2, .int v2), (3, .double v3), (5, .double v5), (9, .double v9), (11, .int v11)] → f_X9_pair_91 n v0 v1 v2 v3 v5 v9 v11 h = some ((), hh) → W p l e (ab_rm 6 0 0) s m args below meth c H locs 0 0 (MQ below (ab_Q D cA sz none hh) args s 0 0 (fun q => sz ≤ q)) (F0 m 91 ls []) := by
  induction n with
  | zero => intro v0 v1 v2 v3 v5 v9 v11 h H locs ls S hl hF; cases hF
  | succ n ih =>
    intro v0 v1 v2 v3 v5 v9 v11 h H locs ls S hl hF
    rw [f_X9_pair_91] at hF
    refine lv_iload X.1 X.2.1 dX9_pair_91 (lv_at hl 6 rfl) ?_
    refine lv_iload_n X.1 X.2.1 dX9_pair_93 rfl (lv_at hl 2 rfl) ?_
    refine lv_icmp_ge (tgt := 139) X.1 X.2.1 dX9_pair_94 (by decide) (fun c1 => ?_) (fun c1 => ?_)
    · have hF := ab_pos c1 hF
      refine ab_aload_n X dX9_pair_139 rfl (lv_at hl 0 rfl) ?_
      refine lv_iload_n X.1 X.2.1 dX9_pair_140 rfl (lv_at hl 1 rfl) ?_
      refine lv_dload_n X.1 X.2.1 dX9_pair_141 rfl (lv_at hl 3 rfl) ?_
      refine lv_dload X.1 X.2.1 dX9_pair_142 (lv_at hl 5 rfl) ?_
      obtain ⟨x2, ev, ne, hF⟩ := ab_fopx hF
      refine lv_dadd X.1 X.2.1 dX9_pair_144 ne ?_
      rw [ev]
      refine ab_aload_n X dX9_pair_145 rfl (lv_at hl 0 rfl) ?_
      refine ab_getR X S hF fi_9_48 lf_X9_149 dX9_pair_146 (fun x3 hF => ?_)
      refine ab_aload_n X dX9_pair_149 rfl (lv_at hl 0 rfl) ?_
      refine ab_getR X S hF fi_9_54 lf_X9_167 dX9_pair_150 (fun x4 hF => ?_)
      obtain ⟨a8, e9, hF⟩ := bind_out hF
      obtain ⟨x5, h6, e7, hF⟩ := bnd_out hF
      refine ab_callVv X S e9 (c_X9_rates l D cA sz e7) rfl (by decide) mi_X9_rates lm_X9_254 li_yX9_rates ls_yX9_rates (As := [.int v1, .double x2, va_rf x3, va_rf x4]) (rest := []) rfl ⟨by decide, by decide⟩ ⟨by decide, by decide⟩ hl.1 rfl (by simp [ab_cat, ab_cI, ab_cJ, ab_cD, ab_cF]) dX9_pair_153 (fun H1 locs1 S => ?_)
      refine lv_iconst (v := 0) X.1 X.2.1 dX9_pair_156 (by decide) ?_
      refine lv_istore (lv' := [(11, .int 0), (0, va_rf v0), (1, .int v1), (2, .int v2), (3, .double v3), (5, .double v5), (9, .double v9)]) X.1 X.2.1 dX9_pair_157 hl (by decide) (by simp [ab_cat, ab_cI, ab_cJ, ab_cD, ab_cF]) (fun ls hl => ?_)
      exact w_X9_pair_159 X hr  fuelN _ _ _ _ _ _ _ _ _ _ S (lv_sub hl [1, 2, 3, 4, 5, 0] rfl) hF
    · have hF := ab_neg c1 hF
      refine ab_aload_n X dX9_pair_97 rfl (lv_at hl 0 rfl) ?_
      refine ab_getR X S hF fi_9_48 lf_X9_149 dX9_pair_98 (fun x10 hF => ?_)
      refine lv_iload X.1 X.2.1 dX9_pair_101 (lv_at hl 6 rfl) ?_
      refine ab_aload_n X dX9_pair_103 rfl (lv_at hl 0 rfl) ?_
      refine lv_iload_n X.1 X.2.1 dX9_pair_104 rfl (lv_at hl 1 rfl) ?_
      refine lv_iload X.1 X.2.1 dX9_pair_105 (lv_at hl 6 rfl) ?_
      refine ab_aload_n X dX9_pair_107 rfl (lv_at hl 0 rfl) ?_
      refine ab_getR X S hF fi_9_47 lf_X9_146 dX9_pair_108 (fun x11 hF => ?_)
      refine lv_iload X.1 X.2.1 dX9_pair_111 (lv_at hl 6 rfl) ?_
      refine ab_aldD X S hF dX9_pair_113 (fun x12 hF => ?_)
      refine lv_dload X.1 X.2.1 dX9_pair_114 (lv_at hl 5 rfl) ?_
      refine ab_aload_n X dX9_pair_116 rfl (lv_at hl 0 rfl) ?_
      refine ab_getR X S hF fi_9_53 lf_X9_164 dX9_pair_117 (fun x13 hF => ?_)
      refine lv_iload X.1 X.2.1 dX9_pair_120 (lv_at hl 6 rfl) ?_
      refine ab_aldD X S hF dX9_pair_122 (fun x14 hF => ?_)
      obtain ⟨x15, h16, e17, hF⟩ := bnd_out hF
      refine ab_callSd X S (c_X9_times l D cA sz e17) mi_X9_times lm_X9_211 lt_yX9_times (As := [.double v9, .double x14]) (rest := [.double x12, .int v11, .int v1, va_rf v0, .int v11, va_rf x10]) rfl ⟨by decide, by decide⟩ ⟨by decide, by decide⟩ hl.1 rfl (by simp [ab_cat, ab_cI, ab_cJ, ab_cD, ab_cF]) dX9_pair_123 (fun H1 locs1 S => ?_)
      obtain ⟨x18, h19, e20, hF⟩ := bnd_out hF
      refine ab_callSd X S (c_X9_plus l D cA sz e20) mi_X9_plus lm_X9_214 lt_yX9_plus (As := [.double x12, .double x15]) (rest := [.int v11, .int v1, va_rf v0, .int v11, va_rf x10]) rfl ⟨by decide, by decide⟩ ⟨by decide, by decide⟩ hl.1 rfl (by simp [ab_cat, ab_cI, ab_cJ, ab_cD, ab_cF]) dX9_pair_126 (fun H1 locs1 S => ?_)
      obtain ⟨a24, e25, hF⟩ := bind_out hF
      obtain ⟨x21, h22, e23, hF⟩ := bnd_out hF
      refine ab_callVd X S e25 (c_X9_put l D cA sz e23) rfl (by decide) mi_X9_put lm_X9_281 li_yX9_put ls_yX9_put (As := [.int v1, .int v11, .double x18]) (rest := [.int v11, va_rf x10]) rfl ⟨by decide, by decide⟩ ⟨by decide, by decide⟩ hl.1 rfl (by simp [ab_cat, ab_cI, ab_cJ, ab_cD, ab_cF]) dX9_pair_129 (fun H1 locs1 S => ?_)
      refine ab_astD X S hF dX9_pair_132 (fun h26 H1 locs1 hF S => ?_)
      refine lv_iinc (v := v11 + 1) (lv' := [(11, .int (v11 + 1)), (0, va_rf v0), (1, .int v1), (2, .int v2), (3, .double v3), (5, .double v5), (9, .double v9)]) X.1 X.2.1 dX9_pair_133 hl (k := 6) rfl (by rfl) (by decide) (by simp [ab_cat, ab_cI, ab_cJ, ab_cD, ab_cF]) (fun ls hl => ?_)
      refine lv_goto (tgt := 91) X.1 X.2.1 dX9_pair_136 (by decide) ?_
      exact ih _ _ _ _ _ _ _ _ _ _ _ S (lv_sub hl [1, 2, 3, 4, 5, 6, 0] rfl) hF
def f_X9_pair_23  : Nat → Option Nat → Int32 → Int32 → UInt64 → UInt64 → UInt64 → UInt64 → Int32 → Hp → Option (Unit × Hp)
  | 0, _, _, _, _, _, _, _, _, _ => none
  | n + 1, v0, v1, v2, v3, v5, v7, v9, v11, h => if v2 ≤ v11 then
      (fop (FP.dadd v3 v7)).bind fun x2 =>
      (getR h v0 9 48).bind fun x3 =>
      (getR h v0 9 53).bind fun x4 =>
      (ab_ck h v0 (9, 0)).bind fun a8 =>
      bnd (f_X9_rates a8 v1 x2 x3 x4 h) fun _ h6 =>
      f_X9_pair_91 fuelN v0 v1 v2 v3 v5 v9 0 h6
    else
      (getR h v0 9 48).bind fun x10 =>
      (getR h v0 9 47).bind fun x11 =>
      (aldD h x11 v11).bind fun x12 =>
      (getR h v0 9 52).bind fun x13 =>
      (aldD h x13 v11).bind fun x14 =>
      bnd (f_X9_times v7 x14 h) fun x15 h16 =>
      bnd (f_X9_plus x12 x15 h16) fun x18 h19 =>
      (ab_ck h19 v0 (9, 0)).bind fun a24 =>
      bnd (f_X9_put a24 v1 v11 x18 h19) fun x21 h22 =>
      (astD h22 x10 v11 x21).bind fun h26 =>
      f_X9_pair_23 n v0 v1 v2 v3 v5 v7 v9 (v11 + 1) h26
set_option maxHeartbeats 4000000 in
set_option maxRecDepth 100000 in
theorem w_X9_pair_23 {p : Program} {l : Launch} {e : Env} {s : State} {m : MethodId} {args : Array Value} {below : List Frame} {meth : Method} {c : Code} {D : va_G} {cA : Nat → ClassId} {sz : Nat}  {hh : Hp}  (X : ab_X p s m args meth c cX9_pair 12 RX9 D cA sz) (hr : meth.sig.returnType = none)  (n : Nat) : ∀ (v0 : Option Nat) (v1 : Int32) (v2 : Int32) (v3 : UInt64) (v5 : UInt64) (v7 : UInt64) (v9 : UInt64) (v11 : Int32) (h : Hp) (H : Heap) (locs : List Loc) (ls : Array Slot), ab_H D cA sz h s H locs → lv_has ls 12 [(0, va_rf v0), (1, .int v1), (2, .int v2), (3, .double v3), (5, .double v5), (7, .double v7), (9, .double v9), (11, .int v11)] → f_X9_pair_23 n v0 v1 v2 v3 v5 v7 v9 v11 h = some ((), hh) → W p l e (ab_rm 6 0 0) s m args below meth c H locs 0 0 (MQ below (ab_Q D cA sz none hh) args s 0 0 (fun q => sz ≤ q)) (F0 m 23 ls []) := by
  induction n with
  | zero => intro v0 v1 v2 v3 v5 v7 v9 v11 h H locs ls S hl hF; cases hF
  | succ n ih =>
    intro v0 v1 v2 v3 v5 v7 v9 v11 h H locs ls S hl hF
    rw [f_X9_pair_23] at hF
    refine lv_iload X.1 X.2.1 dX9_pair_23 (lv_at hl 7 rfl) ?_
    refine lv_iload_n X.1 X.2.1 dX9_pair_25 rfl (lv_at hl 2 rfl) ?_
    refine lv_icmp_ge (tgt := 71) X.1 X.2.1 dX9_pair_26 (by decide) (fun c1 => ?_) (fun c1 => ?_)
    · have hF := ab_pos c1 hF
      refine ab_aload_n X dX9_pair_71 rfl (lv_at hl 0 rfl) ?_
      refine lv_iload_n X.1 X.2.1 dX9_pair_72 rfl (lv_at hl 1 rfl) ?_
      refine lv_dload_n X.1 X.2.1 dX9_pair_73 rfl (lv_at hl 3 rfl) ?_
      refine lv_dload X.1 X.2.1 dX9_pair_74 (lv_at hl 5 rfl) ?_
      obtain ⟨x2, ev, ne, hF⟩ := ab_fopx hF
      refine lv_dadd X.1 X.2.1 dX9_pair_76 ne ?_
      rw [ev]
      refine ab_aload_n X dX9_pair_77 rfl (lv_at hl 0 rfl) ?_
      refine ab_getR X S hF fi_9_48 lf_X9_149 dX9_pair_78 (fun x3 hF => ?_)
      refine ab_aload_n X dX9_pair_81 rfl (lv_at hl 0 rfl) ?_
      refine ab_getR X S hF fi_9_53 lf_X9_164 dX9_pair_82 (fun x4 hF => ?_)
      obtain ⟨a8, e9, hF⟩ := bind_out hF
      obtain ⟨x5, h6, e7, hF⟩ := bnd_out hF
      refine ab_callVv X S e9 (c_X9_rates l D cA sz e7) rfl (by decide) mi_X9_rates lm_X9_254 li_yX9_rates ls_yX9_rates (As := [.int v1, .double x2, va_rf x3, va_rf x4]) (rest := []) rfl ⟨by decide, by decide⟩ ⟨by decide, by decide⟩ hl.1 rfl (by simp [ab_cat, ab_cI, ab_cJ, ab_cD, ab_cF]) dX9_pair_85 (fun H1 locs1 S => ?_)
      refine lv_iconst (v := 0) X.1 X.2.1 dX9_pair_88 (by decide) ?_
      refine lv_istore (lv' := [(11, .int 0), (0, va_rf v0), (1, .int v1), (2, .int v2), (3, .double v3), (5, .double v5), (7, .double v7), (9, .double v9)]) X.1 X.2.1 dX9_pair_89 hl (by decide) (by simp [ab_cat, ab_cI, ab_cJ, ab_cD, ab_cF]) (fun ls hl => ?_)
      exact w_X9_pair_91 X hr  fuelN _ _ _ _ _ _ _ _ _ _ _ S (lv_sub hl [1, 2, 3, 4, 5, 7, 0] rfl) hF
    · have hF := ab_neg c1 hF
      refine ab_aload_n X dX9_pair_29 rfl (lv_at hl 0 rfl) ?_
      refine ab_getR X S hF fi_9_48 lf_X9_149 dX9_pair_30 (fun x10 hF => ?_)
      refine lv_iload X.1 X.2.1 dX9_pair_33 (lv_at hl 7 rfl) ?_
      refine ab_aload_n X dX9_pair_35 rfl (lv_at hl 0 rfl) ?_
      refine lv_iload_n X.1 X.2.1 dX9_pair_36 rfl (lv_at hl 1 rfl) ?_
      refine lv_iload X.1 X.2.1 dX9_pair_37 (lv_at hl 7 rfl) ?_
      refine ab_aload_n X dX9_pair_39 rfl (lv_at hl 0 rfl) ?_
      refine ab_getR X S hF fi_9_47 lf_X9_146 dX9_pair_40 (fun x11 hF => ?_)
      refine lv_iload X.1 X.2.1 dX9_pair_43 (lv_at hl 7 rfl) ?_
      refine ab_aldD X S hF dX9_pair_45 (fun x12 hF => ?_)
      refine lv_dload X.1 X.2.1 dX9_pair_46 (lv_at hl 5 rfl) ?_
      refine ab_aload_n X dX9_pair_48 rfl (lv_at hl 0 rfl) ?_
      refine ab_getR X S hF fi_9_52 lf_X9_161 dX9_pair_49 (fun x13 hF => ?_)
      refine lv_iload X.1 X.2.1 dX9_pair_52 (lv_at hl 7 rfl) ?_
      refine ab_aldD X S hF dX9_pair_54 (fun x14 hF => ?_)
      obtain ⟨x15, h16, e17, hF⟩ := bnd_out hF
      refine ab_callSd X S (c_X9_times l D cA sz e17) mi_X9_times lm_X9_211 lt_yX9_times (As := [.double v7, .double x14]) (rest := [.double x12, .int v11, .int v1, va_rf v0, .int v11, va_rf x10]) rfl ⟨by decide, by decide⟩ ⟨by decide, by decide⟩ hl.1 rfl (by simp [ab_cat, ab_cI, ab_cJ, ab_cD, ab_cF]) dX9_pair_55 (fun H1 locs1 S => ?_)
      obtain ⟨x18, h19, e20, hF⟩ := bnd_out hF
      refine ab_callSd X S (c_X9_plus l D cA sz e20) mi_X9_plus lm_X9_214 lt_yX9_plus (As := [.double x12, .double x15]) (rest := [.int v11, .int v1, va_rf v0, .int v11, va_rf x10]) rfl ⟨by decide, by decide⟩ ⟨by decide, by decide⟩ hl.1 rfl (by simp [ab_cat, ab_cI, ab_cJ, ab_cD, ab_cF]) dX9_pair_58 (fun H1 locs1 S => ?_)
      obtain ⟨a24, e25, hF⟩ := bind_out hF
      obtain ⟨x21, h22, e23, hF⟩ := bnd_out hF
      refine ab_callVd X S e25 (c_X9_put l D cA sz e23) rfl (by decide) mi_X9_put lm_X9_281 li_yX9_put ls_yX9_put (As := [.int v1, .int v11, .double x18]) (rest := [.int v11, va_rf x10]) rfl ⟨by decide, by decide⟩ ⟨by decide, by decide⟩ hl.1 rfl (by simp [ab_cat, ab_cI, ab_cJ, ab_cD, ab_cF]) dX9_pair_61 (fun H1 locs1 S => ?_)
      refine ab_astD X S hF dX9_pair_64 (fun h26 H1 locs1 hF S => ?_)
      refine lv_iinc (v := v11 + 1) (lv' := [(11, .int (v11 + 1)), (0, va_rf v0), (1, .int v1), (2, .int v2), (3, .double v3), (5, .double v5), (7, .double v7), (9, .double v9)]) X.1 X.2.1 dX9_pair_65 hl (k := 7) rfl (by rfl) (by decide) (by simp [ab_cat, ab_cI, ab_cJ, ab_cD, ab_cF]) (fun ls hl => ?_)
      refine lv_goto (tgt := 23) X.1 X.2.1 dX9_pair_68 (by decide) ?_
      exact ih _ _ _ _ _ _ _ _ _ _ _ _ S (lv_sub hl [1, 2, 3, 4, 5, 6, 7, 0] rfl) hF
def f_X9_pair (this : Nat) (p0 : Int32) (p1 : Int32) (p2 : UInt64) (p3 : UInt64) (h : Hp) : Option (Unit × Hp) :=
  (fop (FP.ddiv p3 4611686018427387904)).bind fun x1 =>
  (fop (FP.dmul 4613937818241073152 p3)).bind fun x2 =>
  (fop (FP.ddiv x2 4616189618054758400)).bind fun x3 =>
  f_X9_pair_23 fuelN (some this) p0 p1 p2 p3 x1 x3 0 h
theorem mi_X9_pair : ab_MI yX9_pair cX9_pair 12 none 4 := ⟨lc_yX9_pair, lz_RX9, by decide, by decide, by decide +kernel⟩
set_option maxHeartbeats 4000000 in
set_option maxRecDepth 100000 in
theorem c_X9_pair (l : Launch) (D : va_G) (cA : Nat → ClassId) (sz : Nat) {this : Nat} {p0 : Int32} {p1 : Int32} {p2 : UInt64} {p3 : UInt64} {h hh : Hp}  (hF : f_X9_pair this p0 p1 p2 p3 h = some ((), hh)) : ab_C l D cA sz yX9_pair cX9_pair 12 none 6 0 0 [.ref this, .int p0, .int p1, .double p2, .double p3] h none hh := by
  refine Met.ofW (cc := cX9_pair) (maxL := 12) (ret := none) (by decide) rfl ?_
  intro p e s m args below meth c s₁ B hml hv
  obtain ⟨rfl, hT, hR⟩ := hv
  have X : ab_X p s m _ meth c cX9_pair 12 RX9 D cA sz := (ab_enter B hml hT hR).1
  have S := (ab_enter B hml hT hR).2
  have hr := B.returns
  obtain ⟨ls, hls, hl⟩ := ab_entry m [.ref this, .int p0, .int p1, .double p2, .double p3] 12 (lv := [(0, .ref this), (1, .int p0), (2, .int p1), (3, .double p2), (5, .double p3)]) (by simp [lg_sl, ab_cat, ab_cI, ab_cJ, ab_cD, ab_cF, ab_cA]) (by simp [lv_args, ab_cat, ab_cI, ab_cJ, ab_cD, ab_cF, ab_cA])
  rw [hls]
  have hl : lv_has ls 12 [(0, va_rf (some this)), (1, .int p0), (2, .int p1), (3, .double p2), (5, .double p3)] := hl
  unfold f_X9_pair at hF
  show W p l e (ab_rm 6 0 0) s m _ below meth c s.heap [] 0 0 _ _
  refine lv_dload X.1 X.2.1 dX9_pair_0 (lv_at hl 4 rfl) ?_
  refine lv_ldc2d (v := 4611686018427387904) X.1 X.2.1 X.2.2.2.1 (X.2.2.2.2.1 _ ld_X9_285) dX9_pair_2 ?_
  obtain ⟨x1, ev, ne, hF⟩ := ab_fopx hF
  refine lv_ddiv X.1 X.2.1 dX9_pair_5 ne ?_
  rw [ev]
  refine lv_dstore (lv' := [(7, .double x1), (0, va_rf (some this)), (1, .int p0), (2, .int p1), (3, .double p2), (5, .double p3)]) X.1 X.2.1 dX9_pair_6 hl (by decide) (by simp [ab_cat, ab_cI, ab_cJ, ab_cD, ab_cF]) (fun ls hl => ?_)
  refine lv_ldc2d (v := 4613937818241073152) X.1 X.2.1 X.2.2.2.1 (X.2.2.2.2.1 _ ld_X9_291) dX9_pair_8 ?_
  refine lv_dload X.1 X.2.1 dX9_pair_11 (lv_at hl 5 rfl) ?_
  obtain ⟨x2, ev, ne, hF⟩ := ab_fopx hF
  refine lv_dmul X.1 X.2.1 dX9_pair_13 ne ?_
  rw [ev]
  refine lv_ldc2d (v := 4616189618054758400) X.1 X.2.1 X.2.2.2.1 (X.2.2.2.2.1 _ ld_X9_289) dX9_pair_14 ?_
  obtain ⟨x3, ev, ne, hF⟩ := ab_fopx hF
  refine lv_ddiv X.1 X.2.1 dX9_pair_17 ne ?_
  rw [ev]
  refine lv_dstore (lv' := [(9, .double x3), (7, .double x1), (0, va_rf (some this)), (1, .int p0), (2, .int p1), (3, .double p2), (5, .double p3)]) X.1 X.2.1 dX9_pair_18 hl (by decide) (by simp [ab_cat, ab_cI, ab_cJ, ab_cD, ab_cF]) (fun ls hl => ?_)
  refine lv_iconst (v := 0) X.1 X.2.1 dX9_pair_20 (by decide) ?_
  refine lv_istore (lv' := [(11, .int 0), (9, .double x3), (7, .double x1), (0, va_rf (some this)), (1, .int p0), (2, .int p1), (3, .double p2), (5, .double p3)]) X.1 X.2.1 dX9_pair_21 hl (by decide) (by simp [ab_cat, ab_cI, ab_cJ, ab_cD, ab_cF]) (fun ls hl => ?_)
  exact w_X9_pair_23 X hr  fuelN _ _ _ _ _ _ _ _ _ _ _ _ S (lv_sub hl [3, 4, 5, 6, 7, 2, 1, 0] rfl) hF
