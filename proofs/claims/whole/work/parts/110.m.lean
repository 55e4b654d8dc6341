def f_X4_init (this : Nat) (p0 : Option Nat) (p1 : UInt64) (p2 : Option Nat) (h : Hp) : Option (Unit × Hp) :=
  (putR h (some this) 4 0 p0).bind fun h1 =>
  (putD h1 (some this) 4 1 p1).bind fun h2 =>
  newo h2 3 fun q4 h3 =>
  bnd (f_X3_init q4 6 h3) fun _ h6 =>
  (putR h6 (some this) 4 2 (some q4)).bind fun h8 =>
  (putI h8 (some this) 4 3 0).bind fun h9 =>
  (putD h9 (some this) 4 4 4593671619917905920).bind fun h10 =>
  (putD h10 (some this) 4 5 4517110426252607488).bind fun h11 =>
  (putD h11 (some this) 4 6 FP.dconst0).bind fun h12 =>
  newo h12 0 fun q14 h13 =>
  bnd (f_X0_init q14 h13) fun _ h16 =>
  (putR h16 (some this) 4 10 (some q14)).bind fun h18 =>
  newo h18 6 fun q20 h19 =>
  bnd (f_X6_init q20 p2 h19) fun _ h22 =>
  (putR h22 (some this) 4 11 (some q20)).bind fun h24 =>
  some ((), h24)
theorem mi_X4_init : ab_MI yX4_init cX4_init 5 none 3 := ⟨lc_yX4_init, lz_RX4, by decide, by decide, by decide +kernel⟩
set_option maxHeartbeats 4000000 in
set_option maxRecDepth 100000 in
theorem c_X4_init (l : Launch) (D : va_G) (cA : Nat → ClassId) (sz : Nat) {this : Nat} {p0 : Option Nat} {p1 : UInt64} {p2 : Option Nat} {h hh : Hp}  (hF : f_X4_init this p0 p1 p2 h = some ((), hh)) : ab_C l D cA sz yX4_init cX4_init 5 none 3 43 30045 [.ref this, va_rf p0, .double p1, va_rf p2] h none hh := by
  refine Met.ofW (cc := cX4_init) (maxL := 5) (ret := none) (by decide) rfl ?_
  intro p e s m args below meth c s₁ B hml hv
  obtain ⟨rfl, hT, hR⟩ := hv
  have X : ab_X p s m _ meth c cX4_init 5 RX4 D cA sz := (ab_enter B hml hT hR).1
  have S := (ab_enter B hml hT hR).2
  have hr := B.returns
  obtain ⟨ls, hls, hl⟩ := ab_entry m [.ref this, va_rf p0, .double p1, va_rf p2] 5 (lv := [(0, .ref this), (1, va_rf p0), (2, .double p1), (4, va_rf p2)]) (by simp [lg_sl, ab_cat, ab_cI, ab_cJ, ab_cD, ab_cF, ab_cA]) (by simp [lv_args, ab_cat, ab_cI, ab_cJ, ab_cD, ab_cF, ab_cA])
  rw [hls]
  have hl : lv_has ls 5 [(0, va_rf (some this)), (1, va_rf p0), (2, .double p1), (4, va_rf p2)] := hl
  have hin : meth.name = "<init>" := (name_of_methodNamed B.named B.method).1
  unfold f_X4_init at hF
  show W p l e (ab_rm 3 43 30045) s m _ below meth c s.heap [] 0 0 _ _
  refine ab_aload_n X dX4_init_0 rfl (lv_at hl 0 rfl) ?_
  refine ab_objInit X lm_X4_3 hl.1 (by decide) (by simp [ab_cat, ab_cI, ab_cJ, ab_cD, ab_cF]) dX4_init_1 ?_
  refine ab_aload_n X dX4_init_4 rfl (lv_at hl 0 rfl) ?_
  refine ab_aload_n X dX4_init_5 rfl (lv_at hl 1 rfl) ?_
  refine ab_putR X S hF fi_4_0 ci_4 (Or.inl rfl) (fun q => by cases q <;> rfl) (fun q => by cases q <;> rfl) lf_X4_9 dX4_init_6 (fun h1 H1 locs1 hF S => ?_)
  refine ab_aload_n X dX4_init_9 rfl (lv_at hl 0 rfl) ?_
  refine lv_dload_n X.1 X.2.1 dX4_init_10 rfl (lv_at hl 2 rfl) ?_
  refine ab_putD X S hF fi_4_1 ci_4 (Or.inl rfl) rfl lf_X4_15 dX4_init_11 (fun h2 H1 locs1 hF S => ?_)
  refine ab_aload_n X dX4_init_14 rfl (lv_at hl 0 rfl) ?_
  refine ab_newx X S hF fi_3_0 ci_3 df_3 lk_X4_19 ln_RX3_2 lz_RX3 (by decide) (by decide) dX4_init_15 (fun q4 h3 H1 hF S => ?_)
  refine lv_dup X.1 X.2.1 dX4_init_18 (by simp [ab_cat, ab_cI, ab_cJ, ab_cD, ab_cF]) ?_
  refine lv_bipush (v := 6) X.1 X.2.1 dX4_init_19 (by decide) ?_
  obtain ⟨x5, h6, e7, hF⟩ := bnd_out hF
  refine ab_callIv X S (c_X3_init l D cA sz e7) mi_X3_init rfl lm_X4_21 li_yX3_init (As := [.int 6]) (rest := [va_rf (some q4), va_rf (some this)]) rfl ⟨by decide, by decide⟩ ⟨(by decide), (by decide)⟩ hl.1 rfl (by simp [ab_cat, ab_cI, ab_cJ, ab_cD, ab_cF]) dX4_init_21 (fun H1 locs1 S => ?_)
  refine ab_putR X S hF fi_4_2 ci_4 (Or.inr ⟨rfl, hin, rfl⟩) (fun q => by cases q <;> rfl) (fun q => by cases q <;> rfl) lf_X4_24 dX4_init_24 (fun h8 H1 locs1 hF S => ?_)
  refine ab_aload_n X dX4_init_27 rfl (lv_at hl 0 rfl) ?_
  refine lv_iconst (v := 0) X.1 X.2.1 dX4_init_28 (by decide) ?_
  refine ab_putI X S hF fi_4_3 ci_4 (Or.inl rfl) rfl lf_X4_28 dX4_init_29 (fun h9 H1 locs1 hF S => ?_)
  refine ab_aload_n X dX4_init_32 rfl (lv_at hl 0 rfl) ?_
  refine lv_ldc2d (v := 4593671619917905920) X.1 X.2.1 X.2.2.2.1 (X.2.2.2.2.1 _ ld_X4_32) dX4_init_33 ?_
  refine ab_putD X S hF fi_4_4 ci_4 (Or.inl rfl) rfl lf_X4_34 dX4_init_36 (fun h10 H1 locs1 hF S => ?_)
  refine ab_aload_n X dX4_init_39 rfl (lv_at hl 0 rfl) ?_
  refine lv_ldc2d (v := 4517110426252607488) X.1 X.2.1 X.2.2.2.1 (X.2.2.2.2.1 _ ld_X4_37) dX4_init_40 ?_
  refine ab_putD X S hF fi_4_5 ci_4 (Or.inl rfl) rfl lf_X4_39 dX4_init_43 (fun h11 H1 locs1 hF S => ?_)
  refine ab_aload_n X dX4_init_46 rfl (lv_at hl 0 rfl) ?_
  refine lv_dconst0 X.1 X.2.1 dX4_init_47 ?_
  refine ab_putD X S hF fi_4_6 ci_4 (Or.inl rfl) rfl lf_X4_42 dX4_init_48 (fun h12 H1 locs1 hF S => ?_)
  refine ab_aload_n X dX4_init_51 rfl (lv_at hl 0 rfl) ?_
  refine ab_newx X S hF fi_0_0 ci_0 df_0 lk_X4_45 ln_RX0_9 lz_RX0 (by decide) (by decide) dX4_init_52 (fun q14 h13 H1 hF S => ?_)
  refine lv_dup X.1 X.2.1 dX4_init_55 (by simp [ab_cat, ab_cI, ab_cJ, ab_cD, ab_cF]) ?_
  obtain ⟨x15, h16, e17, hF⟩ := bnd_out hF
  refine ab_callIv X S (c_X0_init l D cA sz e17) mi_X0_init rfl lm_X4_47 li_yX0_init (As := []) (rest := [va_rf (some q14), va_rf (some this)]) rfl ⟨by decide, by decide⟩ ⟨(by decide), (by decide)⟩ hl.1 rfl (by simp [ab_cat, ab_cI, ab_cJ, ab_cD, ab_cF]) dX4_init_56 (fun H1 locs1 S => ?_)
  refine ab_putR X S hF fi_4_10 ci_4 (Or.inr ⟨rfl, hin, rfl⟩) (fun q => by cases q <;> rfl) (fun q => by cases q <;> rfl) lf_X4_48 dX4_init_59 (fun h18 H1 locs1 hF S => ?_)
  refine ab_aload_n X dX4_init_62 rfl (lv_at hl 0 rfl) ?_
  refine ab_newx X S hF fi_6_0 ci_6 df_6 lk_X4_52 ln_RX6_14 lz_RX6 (by decide) (by decide) dX4_init_63 (fun q20 h19 H1 hF S => ?_)
  refine lv_dup X.1 X.2.1 dX4_init_66 (by simp [ab_cat, ab_cI, ab_cJ, ab_cD, ab_cF]) ?_
  refine ab_aload X dX4_init_67 (lv_at hl 3 rfl) ?_
  obtain ⟨x21, h22, e23, hF⟩ := bnd_out hF
  refine ab_callIv X S (c_X6_init l D cA sz e23) mi_X6_init rfl lm_X4_54 li_yX6_init (As := [va_rf p2]) (rest := [va_rf (some q20), va_rf (some this)]) rfl ⟨by decide, by decide⟩ ⟨(by decide), (by decide)⟩ hl.1 rfl (by simp [ab_cat, ab_cI, ab_cJ, ab_cD, ab_cF]) dX4_init_69 (fun H1 locs1 S => ?_)
  refine ab_putR X S hF fi_4_11 ci_4 (Or.inr ⟨rfl, hin, rfl⟩) (fun q => by cases q <;> rfl) (fun q => by cases q <;> rfl) lf_X4_57 dX4_init_72 (fun h24 H1 locs1 hF S => ?_)
  refine W.widen (k := 43) (n := 30045) (Nat.le_of_ble_eq_true rfl) (Nat.le_of_ble_eq_true rfl) ?_
  exact ab_vret X S hr hF dX4_init_75
def f_X4_copy (this : Nat) (p0 : Option Nat) (h : Hp) : Option (Unit × Hp) :=
  (getR h p0 4 0).bind fun x1 =>
  (putR h (some this) 4 0 x1).bind fun h2 =>
  (getD h2 p0 4 1).bind fun x3 =>
  (putD h2 (some this) 4 1 x3).bind fun h4 =>
  (getR h4 (some this) 4 2).bind fun x5 =>
  (getR h4 p0 4 2).bind fun x6 =>
  (ab_ck h4 x5 (3, 0)).bind fun a10 =>
  bnd (f_X3_copy a10 x6 h4) fun _ h8 =>
  (getI h8 p0 4 3).bind fun x12 =>
  (putI h8 (some this) 4 3 x12).bind fun h13 =>
  (getD h13 p0 4 4).bind fun x14 =>
  (putD h13 (some this) 4 4 x14).bind fun h15 =>
  (getD h15 p0 4 5).bind fun x16 =>
  (putD h15 (some this) 4 5 x16).bind fun h17 =>
  (getD h17 p0 4 6).bind fun x18 =>
  (putD h17 (some this) 4 6 x18).bind fun h19 =>
  (getI h19 p0 4 7).bind fun x20 =>
  (putZ h19 (some this) 4 7 x20).bind fun h21 =>
  (getI h21 p0 4 8).bind fun x22 =>
  (putI h21 (some this) 4 8 x22).bind fun h23 =>
  (getI h23 p0 4 9).bind fun x24 =>
  (putI h23 (some this) 4 9 x24).bind fun h25 =>
  (getR h25 (some this) 4 10).bind fun x26 =>
  (getR h25 p0 4 10).bind fun x27 =>
  (ab_ck h25 x26 (0, 0)).bind fun a31 =>
  bnd (f_X0_copy a31 x27 h25) fun _ h29 =>
  (getR h29 (some this) 4 11).bind fun x33 =>
  (getR h29 p0 4 11).bind fun x34 =>
  (ab_ck h29 x33 (6, 0)).bind fun a38 =>
  bnd (f_X6_copy a38 x34 h29) fun _ h36 =>
  some ((), h36)
theorem mi_X4_copy : ab_MI yX4_copy cX4_copy 2 none 1 := ⟨lc_yX4_copy, lz_RX4, by decide, by decide, by decide +kernel⟩
set_option maxHeartbeats 4000000 in
set_option maxRecDepth 100000 in
theorem c_X4_copy (l : Launch) (D : va_G) (cA : Nat → ClassId) (sz : Nat) {this : Nat} {p0 : Option Nat} {h hh : Hp}  (hF : f_X4_copy this p0 h = some ((), hh)) : ab_C l D cA sz yX4_copy cX4_copy 2 none 2 0 0 [.ref this, va_rf p0] h none hh := by
  refine Met.ofW (cc := cX4_copy) (maxL := 2) (ret := none) (by decide) rfl ?_
  intro p e s m args below meth c s₁ B hml hv
  obtain ⟨rfl, hT, hR⟩ := hv
  have X : ab_X p s m _ meth c cX4_copy 2 RX4 D cA sz := (ab_enter B hml hT hR).1
  have S := (ab_enter B hml hT hR).2
  have hr := B.returns
  obtain ⟨ls, hls, hl⟩ := ab_entry m [.ref this, va_rf p0] 2 (lv := [(0, .ref this), (1, va_rf p0)]) (by simp [lg_sl, ab_cat, ab_cI, ab_cJ, ab_cD, ab_cF, ab_cA]) (by simp [lv_args, ab_cat, ab_cI, ab_cJ, ab_cD, ab_cF, ab_cA])
  rw [hls]
  have hl : lv_has ls 2 [(0, va_rf (some this)), (1, va_rf p0)] := hl
  unfold f_X4_copy at hF
  show W p l e (ab_rm 2 0 0) s m _ below meth c s.heap [] 0 0 _ _
  refine ab_aload_n X dX4_copy_0 rfl (lv_at hl 0 rfl) ?_
  refine ab_aload_n X dX4_copy_1 rfl (lv_at hl 1 rfl) ?_
  refine ab_getR X S hF fi_4_0 lf_X4_9 dX4_copy_2 (fun x1 hF => ?_)
  refine ab_putR X S hF fi_4_0 ci_4 (Or.inl rfl) (fun q => by cases q <;> rfl) (fun q => by cases q <;> rfl) lf_X4_9 dX4_copy_5 (fun h2 H1 locs1 hF S => ?_)
  refine ab_aload_n X dX4_copy_8 rfl (lv_at hl 0 rfl) ?_
  refine ab_aload_n X dX4_copy_9 rfl (lv_at hl 1 rfl) ?_
  refine ab_getD X S hF fi_4_1 lf_X4_15 dX4_copy_10 (fun x3 hF => ?_)
  refine ab_putD X S hF fi_4_1 ci_4 (Or.inl rfl) rfl lf_X4_15 dX4_copy_13 (fun h4 H1 locs1 hF S => ?_)
  refine ab_aload_n X dX4_copy_16 rfl (lv_at hl 0 rfl) ?_
  refine ab_getR X S hF fi_4_2 lf_X4_24 dX4_copy_17 (fun x5 hF => ?_)
  refine ab_aload_n X dX4_copy_20 rfl (lv_at hl 1 rfl) ?_
  refine ab_getR X S hF fi_4_2 lf_X4_24 dX4_copy_21 (fun x6 hF => ?_)
  obtain ⟨a10, e11, hF⟩ := bind_out hF
  obtain ⟨x7, h8, e9, hF⟩ := bnd_out hF
  refine ab_callVv X S e11 (c_X3_copy l D cA sz e9) rfl (by decide) mi_X3_copy lm_X4_61 li_yX3_copy ls_yX3_copy (As := [va_rf x6]) (rest := []) rfl ⟨by decide, by decide⟩ ⟨(by decide), (by decide)⟩ hl.1 rfl (by simp [ab_cat, ab_cI, ab_cJ, ab_cD, ab_cF]) dX4_copy_24 (fun H1 locs1 S => ?_)
  refine ab_aload_n X dX4_copy_27 rfl (lv_at hl 0 rfl) ?_
  refine ab_aload_n X dX4_copy_28 rfl (lv_at hl 1 rfl) ?_
  refine ab_getI X S hF fi_4_3 lf_X4_28 dX4_copy_29 (fun x12 hF => ?_)
  refine ab_putI X S hF fi_4_3 ci_4 (Or.inl rfl) rfl lf_X4_28 dX4_copy_32 (fun h13 H1 locs1 hF S => ?_)
  refine ab_aload_n X dX4_copy_35 rfl (lv_at hl 0 rfl) ?_
  refine ab_aload_n X dX4_copy_36 rfl (lv_at hl 1 rfl) ?_
  refine ab_getD X S hF fi_4_4 lf_X4_34 dX4_copy_37 (fun x14 hF => ?_)
  refine ab_putD X S hF fi_4_4 ci_4 (Or.inl rfl) rfl lf_X4_34 dX4_copy_40 (fun h15 H1 locs1 hF S => ?_)
  refine ab_aload_n X dX4_copy_43 rfl (lv_at hl 0 rfl) ?_
  refine ab_aload_n X dX4_copy_44 rfl (lv_at hl 1 rfl) ?_
  refine ab_getD X S hF fi_4_5 lf_X4_39 dX4_copy_45 (fun x16 hF => ?_)
  refine ab_putD X S hF fi_4_5 ci_4 (Or.inl rfl) rfl lf_X4_39 dX4_copy_48 (fun h17 H1 locs1 hF S => ?_)
  refine ab_aload_n X dX4_copy_51 rfl (lv_at hl 0 rfl) ?_
  refine ab_aload_n X dX4_copy_52 rfl (lv_at hl 1 rfl) ?_
  refine ab_getD X S hF fi_4_6 lf_X4_42 dX4_copy_53 (fun x18 hF => ?_)
  refine ab_putD X S hF fi_4_6 ci_4 (Or.inl rfl) rfl lf_X4_42 dX4_copy_56 (fun h19 H1 locs1 hF S => ?_)
  refine ab_aload_n X dX4_copy_59 rfl (lv_at hl 0 rfl) ?_
  refine ab_aload_n X dX4_copy_60 rfl (lv_at hl 1 rfl) ?_
  refine ab_getI X S hF fi_4_7 lf_X4_65 dX4_copy_61 (fun x20 hF => ?_)
  refine ab_putZ X S hF fi_4_7 ci_4 (Or.inl rfl) rfl lf_X4_65 dX4_copy_64 (fun h21 H1 locs1 hF S => ?_)
  refine ab_aload_n X dX4_copy_67 rfl (lv_at hl 0 rfl) ?_
  refine ab_aload_n X dX4_copy_68 rfl (lv_at hl 1 rfl) ?_
  refine ab_getI X S hF fi_4_8 lf_X4_69 dX4_copy_69 (fun x22 hF => ?_)
  refine ab_putI X S hF fi_4_8 ci_4 (Or.inl rfl) rfl lf_X4_69 dX4_copy_72 (fun h23 H1 locs1 hF S => ?_)
  refine ab_aload_n X dX4_copy_75 rfl (lv_at hl 0 rfl) ?_
  refine ab_aload_n X dX4_copy_76 rfl (lv_at hl 1 rfl) ?_
  refine ab_getI X S hF fi_4_9 lf_X4_72 dX4_copy_77 (fun x24 hF => ?_)
  refine ab_putI X S hF fi_4_9 ci_4 (Or.inl rfl) rfl lf_X4_72 dX4_copy_80 (fun h25 H1 locs1 hF S => ?_)
  refine ab_aload_n X dX4_copy_83 rfl (lv_at hl 0 rfl) ?_
  refine ab_getR X S hF fi_4_10 lf_X4_48 dX4_copy_84 (fun x26 hF => ?_)
  refine ab_aload_n X dX4_copy_87 rfl (lv_at hl 1 rfl) ?_
  refine ab_getR X S hF fi_4_10 lf_X4_48 dX4_copy_88 (fun x27 hF => ?_)
  obtain ⟨a31, e32, hF⟩ := bind_out hF
  obtain ⟨x28, h29, e30, hF⟩ := bnd_out hF
  refine ab_callVv X S e32 (c_X0_copy l D cA sz e30) rfl (by decide) mi_X0_copy lm_X4_75 li_yX0_copy ls_yX0_copy (As := [va_rf x27]) (rest := []) rfl ⟨by decide, by decide⟩ ⟨(by decide), (by decide)⟩ hl.1 rfl (by simp [ab_cat, ab_cI, ab_cJ, ab_cD, ab_cF]) dX4_copy_91 (fun H1 locs1 S => ?_)
  refine ab_aload_n X dX4_copy_94 rfl (lv_at hl 0 rfl) ?_
  refine ab_getR X S hF fi_4_11 lf_X4_57 dX4_copy_95 (fun x33 hF => ?_)
  refine ab_aload_n X dX4_copy_98 rfl (lv_at hl 1 rfl) ?_
  refine ab_getR X S hF fi_4_11 lf_X4_57 dX4_copy_99 (fun x34 hF => ?_)
  obtain ⟨a38, e39, hF⟩ := bind_out hF
  obtain ⟨x35, h36, e37, hF⟩ := bnd_out hF
  refine ab_callVv X S e39 (c_X6_copy l D cA sz e37) rfl (by decide) mi_X6_copy lm_X4_78 li_yX6_copy ls_yX6_copy (As := [va_rf x34]) (rest := []) rfl ⟨by decide, by decide⟩ ⟨(by decide), (by decide)⟩ hl.1 rfl (by simp [ab_cat, ab_cI, ab_cJ, ab_cD, ab_cF]) dX4_copy_102 (fun H1 locs1 S => ?_)
  exact ab_vret X S hr hF dX4_copy_105
def f_X4_act_129   (h : Hp) : Option (Unit × Hp) :=
  some ((), h)
set_option maxHeartbeats 4000000 in
set_option maxRecDepth 100000 in
theorem w_X4_act_129 {p : Program} {l : Launch} {e : Env} {s : State} {m : MethodId} {args : Array Value} {below : List Frame} {meth : Method} {c : Code} {D : va_G} {cA : Nat → ClassId} {sz : Nat}  {hh : Hp}  (X : ab_X p s m args meth c cX4_act 5 RX4 D cA sz) (hr : meth.sig.returnType = none)  {H : Heap} {locs : List Loc} {ls : Array Slot}  {h : Hp} (S : ab_H D cA sz h s H locs) (hl : lv_has ls 5 []) (hF : f_X4_act_129  h = some ((), hh)) : W p l e (ab_rm 3 0 0) s m args below meth c H locs 0 0 (MQ below (ab_Q D cA sz none hh) args s 0 0 (fun q => sz ≤ q)) (F0 m 129 ls []) := by
  unfold f_X4_act_129 at hF
  exact ab_vret X S hr hF dX4_act_129
def f_X4_act_106  (v0 : Option Nat) (u0 : Int32) (h : Hp) : Option (Unit × Hp) :=
  (getR h v0 4 2).bind fun x1 =>
  (getR h x1 3 0).bind fun x2 =>
  (getR h v0 4 2).bind fun x3 =>
  (getR h x3 3 0).bind fun x4 =>
  (aldD h x4 u0).bind fun x5 =>
  (astD h x2 u0 (FP.dneg x5)).bind fun h6 =>
  f_X4_act_129 h6
set_option maxHeartbeats 4000000 in
set_option maxRecDepth 100000 in
theorem w_X4_act_106 {p : Program} {l : Launch} {e : Env} {s : State} {m : MethodId} {args : Array Value} {below : List Frame} {meth : Method} {c : Code} {D : va_G} {cA : Nat → ClassId} {sz : Nat}  {hh : Hp}  (X : ab_X p s m args meth c cX4_act 5 RX4 D cA sz) (hr : meth.sig.returnType = none)  {H : Heap} {locs : List Loc} {ls : Array Slot} {v0 : Option Nat} {u0 : Int32} {h : Hp} (S : ab_H D cA sz h s H locs) (hl : lv_has ls 5 [(0, va_rf v0)]) (hF : f_X4_act_106 v0 u0 h = some ((), hh)) : W p l e (ab_rm 3 0 0) s m args below meth c H locs 0 0 (MQ below (ab_Q D cA sz none hh) args s 0 0 (fun q => sz ≤ q)) (F0 m 106 ls [.int u0]) := by
  unfold f_X4_act_106 at hF
  refine lv_istore (lv' := [(4, .int u0), (0, va_rf v0)]) X.1 X.2.1 dX4_act_106 hl (by decide) (by simp [ab_cat, ab_cI, ab_cJ, ab_cD, ab_cF]) (fun ls hl => ?_)
  refine ab_aload_n X dX4_act_108 rfl (lv_at hl 1 rfl) ?_
  refine ab_getR X S hF fi_4_2 lf_X4_24 dX4_act_109 (fun x1 hF => ?_)
  refine ab_getR X S hF fi_3_0 lf_X4_163 dX4_act_112 (fun x2 hF => ?_)
  refine lv_iload X.1 X.2.1 dX4_act_115 (lv_at hl 0 rfl) ?_
  refine ab_aload_n X dX4_act_117 rfl (lv_at hl 1 rfl) ?_
  refine ab_getR X S hF fi_4_2 lf_X4_24 dX4_act_118 (fun x3 hF => ?_)
  refine ab_getR X S hF fi_3_0 lf_X4_163 dX4_act_121 (fun x4 hF => ?_)
  refine lv_iload X.1 X.2.1 dX4_act_124 (lv_at hl 0 rfl) ?_
  refine ab_aldD X S hF dX4_act_126 (fun x5 hF => ?_)
  refine lv_dneg X.1 X.2.1 dX4_act_127 ?_
  refine ab_astD X S hF dX4_act_128 (fun h6 H1 locs1 hF S => ?_)
  exact w_X4_act_129 X hr  S (lv_sub hl [] rfl) hF
def f_X4_act_40  (v0 : Option Nat) (v1 : Int32) (h : Hp) : Option (Unit × Hp) :=
  (getR h v0 4 10).bind fun x1 =>
  (getR h x1 0 3).bind fun x2 =>
  (aldI h x2 11 v1).bind fun x3 =>
  if ¬ x3 = 1 then
    (getR h v0 4 10).bind fun x5 =>
    (getR h x5 0 3).bind fun x6 =>
    (aldI h x6 11 v1).bind fun x7 =>
    if ¬ x7 = 2 then
      f_X4_act_129 h
    else
      (getR h v0 4 0).bind fun x9 =>
      (getR h v0 4 10).bind fun x10 =>
      (getR h x10 0 4).bind fun x11 =>
      (aldI h x11 11 v1).bind fun x12 =>
      (ab_ck h x9 (1, 0)).bind fun a16 =>
      bnd (f_X1_hasVariable a16 x12 h) fun x13 h14 =>
      if x13 = 0 then
        f_X4_act_106 v0 0 h14
      else
        (getR h14 v0 4 10).bind fun x19 =>
        (getR h14 x19 0 4).bind fun x20 =>
        (aldI h14 x20 11 v1).bind fun x21 =>
        f_X4_act_106 v0 x21 h14
  else
    (putZ h v0 4 7 1).bind fun h22 =>
    f_X4_act_129 h22
set_option maxHeartbeats 4000000 in
set_option maxRecDepth 100000 in
theorem w_X4_act_40 {p : Program} {l : Launch} {e : Env} {s : State} {m : MethodId} {args : Array Value} {below : List Frame} {meth : Method} {c : Code} {D : va_G} {cA : Nat → ClassId} {sz : Nat}  {hh : Hp}  (X : ab_X p s m args meth c cX4_act 5 RX4 D cA sz) (hr : meth.sig.returnType = none)  {H : Heap} {locs : List Loc} {ls : Array Slot} {v0 : Option Nat} {v1 : Int32} {h : Hp} (S : ab_H D cA sz h s H locs) (hl : lv_has ls 5 [(0, va_rf v0), (1, .int v1)]) (hF : f_X4_act_40 v0 v1 h = some ((), hh)) : W p l e (ab_rm 3 0 0) s m args below meth c H locs 0 0 (MQ below (ab_Q D cA sz none hh) args s 0 0 (fun q => sz ≤ q)) (F0 m 40 ls []) := by
  unfold f_X4_act_40 at hF
  refine ab_aload_n X dX4_act_40 rfl (lv_at hl 0 rfl) ?_
  refine ab_getR X S hF fi_4_10 lf_X4_48 dX4_act_41 (fun x1 hF => ?_)
  refine ab_getR X S hF fi_0_3 lf_X4_113 dX4_act_44 (fun x2 hF => ?_)
  refine lv_iload_n X.1 X.2.1 dX4_act_47 rfl (lv_at hl 1 rfl) ?_
  refine ab_aldI X S hF dX4_act_48 (fun x3 hF => ?_)
  refine lv_iconst (v := 1) X.1 X.2.1 dX4_act_49 (by decide) ?_
  refine lv_icmp_ne (tgt := 61) X.1 X.2.1 dX4_act_50 (by decide) (fun c4 => ?_) (fun c4 => ?_)
  · have hF := ab_pos c4 hF
    refine ab_aload_n X dX4_act_61 rfl (lv_at hl 0 rfl) ?_
    refine ab_getR X S hF fi_4_10 lf_X4_48 dX4_act_62 (fun x5 hF => ?_)
    refine ab_getR X S hF fi_0_3 lf_X4_113 dX4_act_65 (fun x6 hF => ?_)
    refine lv_iload_n X.1 X.2.1 dX4_act_68 rfl (lv_at hl 1 rfl) ?_
    refine ab_aldI X S hF dX4_act_69 (fun x7 hF => ?_)
    refine lv_iconst (v := 2) X.1 X.2.1 dX4_act_70 (by decide) ?_
    refine lv_icmp_ne (tgt := 129) X.1 X.2.1 dX4_act_71 (by decide) (fun c8 => ?_) (fun c8 => ?_)
    · have hF := ab_pos c8 hF
      exact w_X4_act_129 X hr  S (lv_sub hl [] rfl) hF
    · have hF := ab_neg (fun q => q c8) hF
      refine ab_aload_n X dX4_act_74 rfl (lv_at hl 0 rfl) ?_
      refine ab_getR X S hF fi_4_0 lf_X4_9 dX4_act_75 (fun x9 hF => ?_)
      refine ab_aload_n X dX4_act_78 rfl (lv_at hl 0 rfl) ?_
      refine ab_getR X S hF fi_4_10 lf_X4_48 dX4_act_79 (fun x10 hF => ?_)
      refine ab_getR X S hF fi_0_4 lf_X4_156 dX4_act_82 (fun x11 hF => ?_)
      refine lv_iload_n X.1 X.2.1 dX4_act_85 rfl (lv_at hl 1 rfl) ?_
      refine ab_aldI X S hF dX4_act_86 (fun x12 hF => ?_)
      obtain ⟨a16, e17, hF⟩ := bind_out hF
      obtain ⟨x13, h14, e15, hF⟩ := bnd_out hF
      refine ab_callVi X S e17 (c_X1_hasVariable l D cA sz e15) rfl (by decide) mi_X1_hasVariable lm_X4_159 li_yX1_hasVariable ls_yX1_hasVariable (As := [.int x12]) (rest := []) rfl ⟨by decide, by decide⟩ ⟨(by decide), (by decide)⟩ hl.1 rfl (by simp [ab_cat, ab_cI, ab_cJ, ab_cD, ab_cF]) dX4_act_87 (fun H1 locs1 S => ?_)
      refine lv_if_eq (tgt := 105) X.1 X.2.1 dX4_act_90 (by decide) (fun c18 => ?_) (fun c18 => ?_)
      · have hF := ab_pos c18 hF
        refine lv_iconst (v := 0) X.1 X.2.1 dX4_act_105 (by decide) ?_
        exact w_X4_act_106 X hr  S (lv_sub hl [0] rfl) hF
      · have hF := ab_neg c18 hF
        refine ab_aload_n X dX4_act_93 rfl (lv_at hl 0 rfl) ?_
        refine ab_getR X S hF fi_4_10 lf_X4_48 dX4_act_94 (fun x19 hF => ?_)
        refine ab_getR X S hF fi_0_4 lf_X4_156 dX4_act_97 (fun x20 hF => ?_)
        refine lv_iload_n X.1 X.2.1 dX4_act_100 rfl (lv_at hl 1 rfl) ?_
        refine ab_aldI X S hF dX4_act_101 (fun x21 hF => ?_)
        refine lv_goto (tgt := 106) X.1 X.2.1 dX4_act_102 (by decide) ?_
        exact w_X4_act_106 X hr  S (lv_sub hl [0] rfl) hF
  · have hF := ab_neg (fun q => q c4) hF
    refine ab_aload_n X dX4_act_53 rfl (lv_at hl 0 rfl) ?_
    refine lv_iconst (v := 1) X.1 X.2.1 dX4_act_54 (by decide) ?_
    refine ab_putZ X S hF fi_4_7 ci_4 (Or.inl rfl) rfl lf_X4_65 dX4_act_55 (fun h22 H1 locs1 hF S => ?_)
    refine lv_goto (tgt := 129) X.1 X.2.1 dX4_act_58 (by decide) ?_
    exact w_X4_act_129 X hr  S (lv_sub hl [] rfl) hF
def f_X4_act (this : Nat) (p0 : Int32) (p1 : UInt64) (h : Hp) : Option (Unit × Hp) :=
  if (Op.cmpValue (FP.dcmp p1 FP.dconst1) CmpOp.l) = 0 then
    f_X4_act_40 (some this) p0 h
  else
    (getR h (some this) 4 11).bind fun x2 =>
    (ab_ck h x2 (6, 0)).bind fun a6 =>
    bnd (f_X6_blendAll a6 p1 h) fun _ h4 =>
    (getR h4 (some this) 4 2).bind fun x8 =>
    (getR h4 (some this) 4 11).bind fun x9 =>
    (getR h4 x9 6 7).bind fun x10 =>
    (ab_ck h4 x8 (3, 0)).bind fun a14 =>
    bnd (f_X3_copy a14 x10 h4) fun _ h12 =>
    (getR h12 (some this) 4 11).bind fun x16 =>
    (ab_ck h12 x16 (6, 0)).bind fun a20 =>
    bnd (f_X6_timeAt a20 p1 h12) fun x17 h18 =>
    (putD h18 (some this) 4 1 x17).bind fun h22 =>
    f_X4_act_40 (some this) p0 h22
theorem mi_X4_act : ab_MI yX4_act cX4_act 5 none 2 := ⟨lc_yX4_act, lz_RX4, by decide, by decide, by decide +kernel⟩
set_option maxHeartbeats 4000000 in
set_option maxRecDepth 100000 in
theorem c_X4_act (l : Launch) (D : va_G) (cA : Nat → ClassId) (sz : Nat) {this : Nat} {p0 : Int32} {p1 : UInt64} {h hh : Hp}  (hF : f_X4_act this p0 p1 h = some ((), hh)) : ab_C l D cA sz yX4_act cX4_act 5 none 3 0 0 [.ref this, .int p0, .double p1] h none hh := by
  refine Met.ofW (cc := cX4_act) (maxL := 5) (ret := none) (by decide) rfl ?_
  intro p e s m args below meth c s₁ B hml hv
  obtain ⟨rfl, hT, hR⟩ := hv
  have X : ab_X p s m _ meth c cX4_act 5 RX4 D cA sz := (ab_enter B hml hT hR).1
  have S := (ab_enter B hml hT hR).2
  have hr := B.returns
  obtain ⟨ls, hls, hl⟩ := ab_entry m [.ref this, .int p0, .double p1] 5 (lv := [(0, .ref this), (1, .int p0), (2, .double p1)]) (by simp [lg_sl, ab_cat, ab_cI, ab_cJ, ab_cD, ab_cF, ab_cA]) (by simp [lv_args, ab_cat, ab_cI, ab_cJ, ab_cD, ab_cF, ab_cA])
  rw [hls]
  have hl : lv_has ls 5 [(0, va_rf (some this)), (1, .int p0), (2, .double p1)] := hl
  unfold f_X4_act at hF
  show W p l e (ab_rm 3 0 0) s m _ below meth c s.heap [] 0 0 _ _
  refine lv_dload_n X.1 X.2.1 dX4_act_0 rfl (lv_at hl 2 rfl) ?_
  refine lv_dconst1 X.1 X.2.1 dX4_act_1 ?_
  refine lv_dcmp X.1 X.2.1 dX4_act_2 ?_
  refine lv_if_eq (tgt := 40) X.1 X.2.1 dX4_act_3 (by decide) (fun c1 => ?_) (fun c1 => ?_)
  · have hF := ab_pos c1 hF
    exact w_X4_act_40 X hr  S (lv_sub hl [0, 1] rfl) hF
  · have hF := ab_neg c1 hF
    refine ab_aload_n X dX4_act_6 rfl (lv_at hl 0 rfl) ?_
    refine ab_getR X S hF fi_4_11 lf_X4_57 dX4_act_7 (fun x2 hF => ?_)
    refine lv_dload_n X.1 X.2.1 dX4_act_10 rfl (lv_at hl 2 rfl) ?_
    obtain ⟨a6, e7, hF⟩ := bind_out hF
    obtain ⟨x3, h4, e5, hF⟩ := bnd_out hF
    refine ab_callVv X S e7 (c_X6_blendAll l D cA sz e5) rfl (by decide) mi_X6_blendAll lm_X4_149 li_yX6_blendAll ls_yX6_blendAll (As := [.double p1]) (rest := []) rfl ⟨by decide, by decide⟩ ⟨(by decide), (by decide)⟩ hl.1 rfl (by simp [ab_cat, ab_cI, ab_cJ, ab_cD, ab_cF]) dX4_act_11 (fun H1 locs1 S => ?_)
    refine ab_aload_n X dX4_act_14 rfl (lv_at hl 0 rfl) ?_
    refine ab_getR X S hF fi_4_2 lf_X4_24 dX4_act_15 (fun x8 hF => ?_)
    refine ab_aload_n X dX4_act_18 rfl (lv_at hl 0 rfl) ?_
    refine ab_getR X S hF fi_4_11 lf_X4_57 dX4_act_19 (fun x9 hF => ?_)
    refine ab_getR X S hF fi_6_7 lf_X4_153 dX4_act_22 (fun x10 hF => ?_)
    obtain ⟨a14, e15, hF⟩ := bind_out hF
    obtain ⟨x11, h12, e13, hF⟩ := bnd_out hF
    refine ab_callVv X S e15 (c_X3_copy l D cA sz e13) rfl (by decide) mi_X3_copy lm_X4_61 li_yX3_copy ls_yX3_copy (As := [va_rf x10]) (rest := []) rfl ⟨by decide, by decide⟩ ⟨(by decide), (by decide)⟩ hl.1 rfl (by simp [ab_cat, ab_cI, ab_cJ, ab_cD, ab_cF]) dX4_act_25 (fun H1 locs1 S => ?_)
    refine ab_aload_n X dX4_act_28 rfl (lv_at hl 0 rfl) ?_
    refine ab_aload_n X dX4_act_29 rfl (lv_at hl 0 rfl) ?_
    refine ab_getR X S hF fi_4_11 lf_X4_57 dX4_act_30 (fun x16 hF => ?_)
    refine lv_dload_n X.1 X.2.1 dX4_act_33 rfl (lv_at hl 2 rfl) ?_
    obtain ⟨a20, e21, hF⟩ := bind_out hF
    obtain ⟨x17, h18, e19, hF⟩ := bnd_out hF
    refine ab_callVd X S e21 (c_X6_timeAt l D cA sz e19) rfl (by decide) mi_X6_timeAt lm_X4_105 li_yX6_timeAt ls_yX6_timeAt (As := [.double p1]) (rest := [va_rf (some this)]) rfl ⟨by decide, by decide⟩ ⟨(by decide), (by decide)⟩ hl.1 rfl (by simp [ab_cat, ab_cI, ab_cJ, ab_cD, ab_cF]) dX4_act_34 (fun H1 locs1 S => ?_)
    refine ab_putD X S hF fi_4_1 ci_4 (Or.inl rfl) rfl lf_X4_15 dX4_act_37 (fun h22 H1 locs1 hF S => ?_)
    exact w_X4_act_40 X hr  S (lv_sub hl [0, 1] rfl) hF
def f_X6_judge_104 (k_3 : Option Nat → UInt64 → UInt64 → Int32 → Hp → Option (Unit × Hp)) (v0 : Option Nat) (v1 : UInt64) (v3 : UInt64) (v5 : Int32) (u0 : UInt64) (u1 : Option Nat) (h : Hp) : Option (Unit × Hp) :=
  (putD h u1 6 12 u0).bind fun h1 =>
  k_3 v0 v1 v3 (v5 + 1) h1
set_option maxHeartbeats 4000000 in
set_option maxRecDepth 100000 in
theorem w_X6_judge_104 {p : Program} {l : Launch} {e : Env} {s : State} {m : MethodId} {args : Array Value} {below : List Frame} {meth : Method} {c : Code} {D : va_G} {cA : Nat → ClassId} {sz : Nat}  {hh : Hp} {k_3 : Option Nat → UInt64 → UInt64 → Int32 → Hp → Option (Unit × Hp)} (X : ab_X p s m args meth c cX6_judge 14 RX6 D cA sz) (hr : meth.sig.returnType = none) (hk_3 : ∀ (v0 : Option Nat) (v1 : UInt64) (v3 : UInt64) (v5 : Int32) (h : Hp) (H : Heap) (locs : List Loc) (ls : Array Slot), ab_H D cA sz h s H locs → lv_has ls 14 [(0, va_rf v0), (1, .double v1), (3, .double v3), (5, .int v5)] → k_3 v0 v1 v3 v5 h = some ((), hh) → W p l e (ab_rm 1 0 0) s m args below meth c H locs 0 0 (MQ below (ab_Q D cA sz none hh) args s 0 0 (fun q => sz ≤ q)) (F0 m 3 ls [])) {H : Heap} {locs : List Loc} {ls : Array Slot} {v0 : Option Nat} {v1 : UInt64} {v3 : UInt64} {v5 : Int32} {u0 : UInt64} {u1 : Option Nat} {h : Hp} (S : ab_H D cA sz h s H locs) (hl : lv_has ls 14 [(0, va_rf v0), (1, .double v1), (3, .double v3), (5, .int v5)]) (hF : f_X6_judge_104 k_3 v0 v1 v3 v5 u0 u1 h = some ((), hh)) : W p l e (ab_rm 1 0 0) s m args below meth c H locs 0 0 (MQ below (ab_Q D cA sz none hh) args s 0 0 (fun q => sz ≤ q)) (F0 m 104 ls [.double u0, va_rf u1]) := by
  unfold f_X6_judge_104 at hF
  refine ab_putD X S hF fi_6_12 ci_6 (Or.inl rfl) rfl lf_X6_62 dX6_judge_104 (fun h1 H1 locs1 hF S => ?_)
  refine lv_iinc (v := v5 + 1) (lv' := [(5, .int (v5 + 1)), (0, va_rf v0), (1, .double v1), (3, .double v3)]) X.1 X.2.1 dX6_judge_107 hl (k := 3) rfl (by rfl) (by decide) (by simp [ab_cat, ab_cI, ab_cJ, ab_cD, ab_cF]) (fun ls hl => ?_)
  refine lv_goto (tgt := 3) X.1 X.2.1 dX6_judge_110 (by decide) ?_
  exact hk_3 _ _ _ _ _ _ _ _ S (lv_sub hl [1, 2, 3, 0] rfl) hF
def f_X6_judge_62 (k_3 : Option Nat → UInt64 → UInt64 → Int32 → Hp → Option (Unit × Hp)) (v0 : Option Nat) (v1 : UInt64) (v3 : UInt64) (v5 : Int32) (u0 : UInt64) (u1 : UInt64) (u2 : UInt64) (h : Hp) : Option (Unit × Hp) :=
  (fop (FP.dmul u1 u0)).bind fun x1 =>
  (fop (FP.dadd u2 x1)).bind fun x2 =>
  (getR h v0 6 10).bind fun x3 =>
  (getR h x3 3 0).bind fun x4 =>
  (aldD h x4 v5).bind fun x5 =>
  bnd (f_X8_size x5 h) fun x6 h7 =>
  (fop (FP.ddiv x6 x2)).bind fun x9 =>
  (getD h7 v0 6 12).bind fun x10 =>
  if (Op.cmpValue (FP.dcmp x9 x10) CmpOp.l) ≤ 0 then
    (getD h7 v0 6 12).bind fun x12 =>
    f_X6_judge_104 k_3 v0 v1 v3 v5 x12 v0 h7
  else
    f_X6_judge_104 k_3 v0 v1 v3 v5 x9 v0 h7
set_option maxHeartbeats 4000000 in
set_option maxRecDepth 100000 in
theorem w_X6_judge_62 {p : Program} {l : Launch} {e : Env} {s : State} {m : MethodId} {args : Array Value} {below : List Frame} {meth : Method} {c : Code} {D : va_G} {cA : Nat → ClassId} {sz : Nat}  {hh : Hp} {k_3 : Option Nat → UInt64 → UInt64 → Int32 → Hp → Option (Unit × Hp)} (X : ab_X p s m args meth c cX6_judge 14 RX6 D cA sz) (hr : meth.sig.returnType = none) (hk_3 : ∀ (v0 : Option Nat) (v1 : UInt64) (v3 : UInt64) (v5 : Int32) (h : Hp) (H : Heap) (locs : List Loc) (ls : Array Slot), ab_H D cA sz h s H locs → lv_has ls 14 [(0, va_rf v0), (1, .double v1), (3, .double v3), (5, .int v5)] → k_3 v0 v1 v3 v5 h = some ((), hh) → W p l e (ab_rm 1 0 0) s m args below meth c H locs 0 0 (MQ below (ab_Q D cA sz none hh) args s 0 0 (fun q => sz ≤ q)) (F0 m 3 ls [])) {H : Heap} {locs : List Loc} {ls : Array Slot} {v0 : Option Nat} {v1 : UInt64} {v3 : UInt64} {v5 : Int32} {u0 : UInt64} {u1 : UInt64} {u2 : UInt64} {h : Hp} (S : ab_H D cA sz h s H locs) (hl : lv_has ls 14 [(0, va_rf v0), (1, .double v1), (3, .double v3), (5, .int v5)]) (hF : f_X6_judge_62 k_3 v0 v1 v3 v5 u0 u1 u2 h = some ((), hh)) : W p l e (ab_rm 1 0 0) s m args below meth c H locs 0 0 (MQ below (ab_Q D cA sz none hh) args s 0 0 (fun q => sz ≤ q)) (F0 m 62 ls [.double u0, .double u1, .double u2]) := by
  unfold f_X6_judge_62 at hF
  obtain ⟨x1, ev, ne, hF⟩ := ab_fopx hF
  refine lv_dmul X.1 X.2.1 dX6_judge_62 ne ?_
  rw [ev]
  obtain ⟨x2, ev, ne, hF⟩ := ab_fopx hF
  refine lv_dadd X.1 X.2.1 dX6_judge_63 ne ?_
  rw [ev]
  refine lv_dstore (lv' := [(10, .double x2), (0, va_rf v0), (1, .double v1), (3, .double v3), (5, .int v5)]) X.1 X.2.1 dX6_judge_64 hl (by decide) (by simp [ab_cat, ab_cI, ab_cJ, ab_cD, ab_cF]) (fun ls hl => ?_)
  refine ab_aload_n X dX6_judge_66 rfl (lv_at hl 1 rfl) ?_
  refine ab_getR X S hF fi_6_10 lf_X6_34 dX6_judge_67 (fun x3 hF => ?_)
  refine ab_getR X S hF fi_3_0 lf_X6_144 dX6_judge_70 (fun x4 hF => ?_)
  refine lv_iload X.1 X.2.1 dX6_judge_73 (lv_at hl 4 rfl) ?_
  refine ab_aldD X S hF dX6_judge_75 (fun x5 hF => ?_)
  obtain ⟨x6, h7, e8, hF⟩ := bnd_out hF
  refine ab_callSNd X S (c_X8_size l D cA sz e8) mi_X8_size X.2.2.2.2.2.1.2.2.1.2 lt_yX8_size (As := [.double x5]) (rest := []) rfl ⟨by decide, by decide⟩ ⟨(by decide), (by decide)⟩ hl.1 rfl (by simp [ab_cat, ab_cI, ab_cJ, ab_cD, ab_cF]) dX6_judge_76 (fun H1 locs1 S => ?_)
  refine lv_dload X.1 X.2.1 dX6_judge_79 (lv_at hl 0 rfl) ?_
  obtain ⟨x9, ev, ne, hF⟩ := ab_fopx hF
  refine lv_ddiv X.1 X.2.1 dX6_judge_81 ne ?_
  rw [ev]
  refine lv_dstore (lv' := [(12, .double x9), (10, .double x2), (0, va_rf v0), (1, .double v1), (3, .double v3), (5, .int v5)]) X.1 X.2.1 dX6_judge_82 hl (by decide) (by simp [ab_cat, ab_cI, ab_cJ, ab_cD, ab_cF]) (fun ls hl => ?_)
  refine ab_aload_n X dX6_judge_84 rfl (lv_at hl 2 rfl) ?_
  refine lv_dload X.1 X.2.1 dX6_judge_85 (lv_at hl 0 rfl) ?_
  refine ab_aload_n X dX6_judge_87 rfl (lv_at hl 2 rfl) ?_
  refine ab_getD X S hF fi_6_12 lf_X6_62 dX6_judge_88 (fun x10 hF => ?_)
  refine lv_dcmp X.1 X.2.1 dX6_judge_91 ?_
  refine lv_if_le (tgt := 100) X.1 X.2.1 dX6_judge_92 (by decide) (fun c11 => ?_) (fun c11 => ?_)
  · have hF := ab_pos c11 hF
    refine ab_aload_n X dX6_judge_100 rfl (lv_at hl 2 rfl) ?_
    refine ab_getD X S hF fi_6_12 lf_X6_62 dX6_judge_101 (fun x12 hF => ?_)
    exact w_X6_judge_104 X hr hk_3 S (lv_sub hl [2, 3, 4, 5] rfl) hF
  · have hF := ab_neg c11 hF
    refine lv_dload X.1 X.2.1 dX6_judge_95 (lv_at hl 0 rfl) ?_
    refine lv_goto (tgt := 104) X.1 X.2.1 dX6_judge_97 (by decide) ?_
    exact w_X6_judge_104 X hr hk_3 S (lv_sub hl [2, 3, 4, 5] rfl) hF
def f_X6_judge_3  : Nat → Option Nat → UInt64 → UInt64 → Int32 → Hp → Option (Unit × Hp)
  | 0, _, _, _, _, _ => none
  | n + 1, v0, v1, v3, v5, h => (getR h v0 6 1).bind fun x1 =>
    (getI h x1 1 1).bind fun x2 =>
    if x2 ≤ v5 then
      some ((), h)
    else
      (getR h v0 6 6).bind fun x4 =>
      (getR h x4 3 0).bind fun x5 =>
      (aldD h x5 v5).bind fun x6 =>
      bnd (f_X8_size x6 h) fun x7 h8 =>
      (getR h8 v0 6 8).bind fun x10 =>
      (getR h8 x10 3 0).bind fun x11 =>
      (aldD h8 x11 v5).bind fun x12 =>
      bnd (f_X8_size x12 h8) fun x13 h14 =>
      if (Op.cmpValue (FP.dcmp x7 x13) CmpOp.l) < 0 then
        f_X6_judge_62 (f_X6_judge_3 n) v0 v1 v3 v5 x13 v3 v1 h14
      else
        f_X6_judge_62 (f_X6_judge_3 n) v0 v1 v3 v5 x7 v3 v1 h14
set_option maxHeartbeats 4000000 in
set_option maxRecDepth 100000 in
theorem w_X6_judge_3 {p : Program} {l : Launch} {e : Env} {s : State} {m : MethodId} {args : Array Value} {below : List Frame} {meth : Method} {c : Code} {D : va_G} {cA : Nat → ClassId} {sz : Nat}  {hh : Hp}  (X : ab_X p s m args meth c cX6_judge 14 RX6 D cA sz) (hr : meth.sig.returnType = none)  (n : Nat) : ∀ (v0 : Option Nat) (v1 : UInt64) (v3 : UInt64) (v5 : Int32) (h : Hp) (H : Heap) (locs : List Loc) (ls : Array Slot), ab_H D cA sz h s H locs → lv_has ls 14 [(0, va_rf v0), (1, .double v1), (3, .double v3), (5, .int v5)] → f_X6_judge_3 n v0 v1 v3 v5 h = some ((), hh) → W p l e (ab_rm 1 0 0) s m args below meth c H locs 0 0 (MQ below (ab_Q D cA sz none hh) args s 0 0 (fun q => sz ≤ q)) (F0 m 3 ls []) := by
  induction n with
  | zero => intro v0 v1 v3 v5 h H locs ls S hl hF; cases hF
  | succ n ih =>
    intro v0 v1 v3 v5 h H locs ls S hl hF
    rw [f_X6_judge_3] at hF
    refine lv_iload X.1 X.2.1 dX6_judge_3 (lv_at hl 3 rfl) ?_
    refine ab_aload_n X dX6_judge_5 rfl (lv_at hl 0 rfl) ?_
    refine ab_getR X S hF fi_6_1 lf_X6_40 dX6_judge_6 (fun x1 hF => ?_)
    refine ab_getI X S hF fi_1_1 lf_X6_95 dX6_judge_9 (fun x2 hF => ?_)
    refine lv_icmp_ge (tgt := 113) X.1 X.2.1 dX6_judge_12 (by decide) (fun c3 => ?_) (fun c3 => ?_)
    · have hF := ab_pos c3 hF
      exact ab_vret X S hr hF dX6_judge_113
    · have hF := ab_neg c3 hF
      refine ab_aload_n X dX6_judge_15 rfl (lv_at hl 0 rfl) ?_
      refine ab_getR X S hF fi_6_6 lf_X6_20 dX6_judge_16 (fun x4 hF => ?_)
      refine ab_getR X S hF fi_3_0 lf_X6_144 dX6_judge_19 (fun x5 hF => ?_)
      refine lv_iload X.1 X.2.1 dX6_judge_22 (lv_at hl 3 rfl) ?_
      refine ab_aldD X S hF dX6_judge_24 (fun x6 hF => ?_)
      obtain ⟨x7, h8, e9, hF⟩ := bnd_out hF
      refine ab_callSNd X S (c_X8_size l D cA sz e9) mi_X8_size X.2.2.2.2.2.1.2.2.1.2 lt_yX8_size (As := [.double x6]) (rest := []) rfl ⟨by decide, by decide⟩ ⟨(by decide), (by decide)⟩ hl.1 rfl (by simp [ab_cat, ab_cI, ab_cJ, ab_cD, ab_cF]) dX6_judge_25 (fun H1 locs1 S => ?_)
      refine lv_dstore (lv' := [(6, .double x7), (0, va_rf v0), (1, .double v1), (3, .double v3), (5, .int v5)]) X.1 X.2.1 dX6_judge_28 hl (by decide) (by simp [ab_cat, ab_cI, ab_cJ, ab_cD, ab_cF]) (fun ls hl => ?_)
      refine ab_aload_n X dX6_judge_30 rfl (lv_at hl 1 rfl) ?_
      refine ab_getR X S hF fi_6_8 lf_X6_27 dX6_judge_31 (fun x10 hF => ?_)
      refine ab_getR X S hF fi_3_0 lf_X6_144 dX6_judge_34 (fun x11 hF => ?_)
      refine lv_iload X.1 X.2.1 dX6_judge_37 (lv_at hl 4 rfl) ?_
      refine ab_aldD X S hF dX6_judge_39 (fun x12 hF => ?_)
      obtain ⟨x13, h14, e15, hF⟩ := bnd_out hF
      refine ab_callSNd X S (c_X8_size l D cA sz e15) mi_X8_size X.2.2.2.2.2.1.2.2.1.2 lt_yX8_size (As := [.double x12]) (rest := []) rfl ⟨by decide, by decide⟩ ⟨(by decide), (by decide)⟩ hl.1 rfl (by simp [ab_cat, ab_cI, ab_cJ, ab_cD, ab_cF]) dX6_judge_40 (fun H1 locs1 S => ?_)
      refine lv_dstore (lv' := [(8, .double x13), (6, .double x7), (0, va_rf v0), (1, .double v1), (3, .double v3), (5, .int v5)]) X.1 X.2.1 dX6_judge_43 hl (by decide) (by simp [ab_cat, ab_cI, ab_cJ, ab_cD, ab_cF]) (fun ls hl => ?_)
      refine lv_dload_n X.1 X.2.1 dX6_judge_45 rfl (lv_at hl 3 rfl) ?_
      refine lv_dload_n X.1 X.2.1 dX6_judge_46 rfl (lv_at hl 4 rfl) ?_
      refine lv_dload X.1 X.2.1 dX6_judge_47 (lv_at hl 1 rfl) ?_
      refine lv_dload X.1 X.2.1 dX6_judge_49 (lv_at hl 0 rfl) ?_
      refine lv_dcmp X.1 X.2.1 dX6_judge_51 ?_
      refine lv_if_lt (tgt := 60) X.1 X.2.1 dX6_judge_52 (by decide) (fun c16 => ?_) (fun c16 => ?_)
      · have hF := ab_pos c16 hF
        refine lv_dload X.1 X.2.1 dX6_judge_60 (lv_at hl 0 rfl) ?_
        exact w_X6_judge_62 X hr ih S (lv_sub hl [2, 3, 4, 5] rfl) hF
      · have hF := ab_neg c16 hF
        refine lv_dload X.1 X.2.1 dX6_judge_55 (lv_at hl 1 rfl) ?_
        refine lv_goto (tgt := 62) X.1 X.2.1 dX6_judge_57 (by decide) ?_
        exact w_X6_judge_62 X hr ih S (lv_sub hl [2, 3, 4, 5] rfl) hF
def f_X6_judge (this : Nat) (p0 : UInt64) (p1 : UInt64) (h : Hp) : Option (Unit × Hp) :=
  f_X6_judge_3 fuelN (some this) p0 p1 0 h
theorem mi_X6_judge : ab_MI yX6_judge cX6_judge 14 none 2 := ⟨lc_yX6_judge, lz_RX6, by decide, by decide, by decide +kernel⟩
set_option maxHeartbeats 4000000 in
set_option maxRecDepth 100000 in
theorem c_X6_judge (l : Launch) (D : va_G) (cA : Nat → ClassId) (sz : Nat) {this : Nat} {p0 : UInt64} {p1 : UInt64} {h hh : Hp}  (hF : f_X6_judge this p0 p1 h = some ((), hh)) : ab_C l D cA sz yX6_judge cX6_judge 14 none 1 0 0 [.ref this, .double p0, .double p1] h none hh := by
  refine Met.ofW (cc := cX6_judge) (maxL := 14) (ret := none) (by decide) rfl ?_
  intro p e s m args below meth c s₁ B hml hv
  obtain ⟨rfl, hT, hR⟩ := hv
  have X : ab_X p s m _ meth c cX6_judge 14 RX6 D cA sz := (ab_enter B hml hT hR).1
  have S := (ab_enter B hml hT hR).2
  have hr := B.returns
  obtain ⟨ls, hls, hl⟩ := ab_entry m [.ref this, .double p0, .double p1] 14 (lv := [(0, .ref this), (1, .double p0), (3, .double p1)]) (by simp [lg_sl, ab_cat, ab_cI, ab_cJ, ab_cD, ab_cF, ab_cA]) (by simp [lv_args, ab_cat, ab_cI, ab_cJ, ab_cD, ab_cF, ab_cA])
  rw [hls]
  have hl : lv_has ls 14 [(0, va_rf (some this)), (1, .double p0), (3, .double p1)] := hl
  unfold f_X6_judge at hF
  show W p l e (ab_rm 1 0 0) s m _ below meth c s.heap [] 0 0 _ _
  refine lv_iconst (v := 0) X.1 X.2.1 dX6_judge_0 (by decide) ?_
  refine lv_istore (lv' := [(5, .int 0), (0, va_rf (some this)), (1, .double p0), (3, .double p1)]) X.1 X.2.1 dX6_judge_1 hl (by decide) (by simp [ab_cat, ab_cI, ab_cJ, ab_cD, ab_cF]) (fun ls hl => ?_)
  exact w_X6_judge_3 X hr  fuelN _ _ _ _ _ _ _ _ S (lv_sub hl [1, 2, 3, 0] rfl) hF
def f_X7_bits_53  (u0 : UInt64) (u1 : Option Nat) (u2 : Int64) (h : Hp) : Option (Int64 × Hp) :=
  (ab_ck h u1 (7, 0)).bind fun a4 =>
  bnd (f_X7_bitsOfSize a4 u0 h) fun x1 h2 =>
  some (u2 ||| x1, h2)
set_option maxHeartbeats 4000000 in
set_option maxRecDepth 100000 in
theorem w_X7_bits_53 {p : Program} {l : Launch} {e : Env} {s : State} {m : MethodId} {args : Array Value} {below : List Frame} {meth : Method} {c : Code} {D : va_G} {cA : Nat → ClassId} {sz : Nat} {rr : Int64} {hh : Hp}  (X : ab_X p s m args meth c cX7_bits 6 RX7 D cA sz) (hr : meth.sig.returnType = (some .long))  {H : Heap} {locs : List Loc} {ls : Array Slot} {u0 : UInt64} {u1 : Option Nat} {u2 : Int64} {h : Hp} (S : ab_H D cA sz h s H locs) (hl : lv_has ls 6 []) (hF : f_X7_bits_53 u0 u1 u2 h = some (rr, hh)) : W p l e (ab_rm 1 0 0) s m args below meth c H locs 0 0 (MQ below (ab_Q D cA sz (some (.long rr)) hh) args s 0 0 (fun q => sz ≤ q)) (F0 m 53 ls [.double u0, va_rf u1, .long u2]) := by
  unfold f_X7_bits_53 at hF
  obtain ⟨a4, e5, hF⟩ := bind_out hF
  obtain ⟨x1, h2, e3, hF⟩ := bnd_out hF
  refine ab_callVl X S e5 (c_X7_bitsOfSize l D cA sz e3) rfl (by decide) mi_X7_bitsOfSize lm_X7_34 li_yX7_bitsOfSize ls_yX7_bitsOfSize (As := [.double u0]) (rest := [.long u2]) rfl ⟨by decide, by decide⟩ ⟨(by decide), (by decide)⟩ hl.1 rfl (by simp [ab_cat, ab_cI, ab_cJ, ab_cD, ab_cF]) dX7_bits_53 (fun H1 locs1 S => ?_)
  refine lv_lor X.1 X.2.1 dX7_bits_56 ?_
  exact ab_lret X S hr hF dX7_bits_57
def f_X7_bits_37  (v0 : Option Nat) (v1 : UInt64) (v3 : Int32) (u0 : Int64) (h : Hp) : Option (Int64 × Hp) :=
  if v3 = 0 then
    f_X7_bits_53 v1 v0 u0 h
  else
    (fop (FP.dsub FP.dconst0 v1)).bind fun x2 =>
    f_X7_bits_53 x2 v0 u0 h
set_option maxHeartbeats 4000000 in
set_option maxRecDepth 100000 in
theorem w_X7_bits_37 {p : Program} {l : Launch} {e : Env} {s : State} {m : MethodId} {args : Array Value} {below : List Frame} {meth : Method} {c : Code} {D : va_G} {cA : Nat → ClassId} {sz : Nat} {rr : Int64} {hh : Hp}  (X : ab_X p s m args meth c cX7_bits 6 RX7 D cA sz) (hr : meth.sig.returnType = (some .long))  {H : Heap} {locs : List Loc} {ls : Array Slot} {v0 : Option Nat} {v1 : UInt64} {v3 : Int32} {u0 : Int64} {h : Hp} (S : ab_H D cA sz h s H locs) (hl : lv_has ls 6 [(0, va_rf v0), (1, .double v1), (3, .int v3)]) (hF : f_X7_bits_37 v0 v1 v3 u0 h = some (rr, hh)) : W p l e (ab_rm 1 0 0) s m args below meth c H locs 0 0 (MQ below (ab_Q D cA sz (some (.long rr)) hh) args s 0 0 (fun q => sz ≤ q)) (F0 m 37 ls [.long u0]) := by
  unfold f_X7_bits_37 at hF
  refine lv_lstore (lv' := [(4, .long u0), (0, va_rf v0), (1, .double v1), (3, .int v3)]) X.1 X.2.1 dX7_bits_37 hl (by decide) (by simp [ab_cat, ab_cI, ab_cJ, ab_cD, ab_cF]) (fun ls hl => ?_)
  refine lv_lload X.1 X.2.1 dX7_bits_39 (lv_at hl 0 rfl) ?_
  refine ab_aload_n X dX7_bits_41 rfl (lv_at hl 1 rfl) ?_
  refine lv_iload_n X.1 X.2.1 dX7_bits_42 rfl (lv_at hl 3 rfl) ?_
  refine lv_if_eq (tgt := 52) X.1 X.2.1 dX7_bits_43 (by decide) (fun c1 => ?_) (fun c1 => ?_)
  · have hF := ab_pos c1 hF
    refine lv_dload_n X.1 X.2.1 dX7_bits_52 rfl (lv_at hl 2 rfl) ?_
    exact w_X7_bits_53 X hr  S (lv_sub hl [] rfl) hF
  · have hF := ab_neg c1 hF
    refine lv_dconst0 X.1 X.2.1 dX7_bits_46 ?_
    refine lv_dload_n X.1 X.2.1 dX7_bits_47 rfl (lv_at hl 2 rfl) ?_
    obtain ⟨x2, ev, ne, hF⟩ := ab_fopx hF
    refine lv_dsub X.1 X.2.1 dX7_bits_48 ne ?_
    rw [ev]
    refine lv_goto (tgt := 53) X.1 X.2.1 dX7_bits_49 (by decide) ?_
    exact w_X7_bits_53 X hr  S (lv_sub hl [] rfl) hF
def f_X7_bits_25  (v0 : Option Nat) (v1 : UInt64) (u0 : Int32) (h : Hp) : Option (Int64 × Hp) :=
  if u0 = 0 then
    f_X7_bits_37 v0 v1 u0 0 h
  else
    f_X7_bits_37 v0 v1 u0 (-9223372036854775808) h
set_option maxHeartbeats 4000000 in
set_option maxRecDepth 100000 in
theorem w_X7_bits_25 {p : Program} {l : Launch} {e : Env} {s : State} {m : MethodId} {args : Array Value} {below : List Frame} {meth : Method} {c : Code} {D : va_G} {cA : Nat → ClassId} {sz : Nat} {rr : Int64} {hh : Hp}  (X : ab_X p s m args meth c cX7_bits 6 RX7 D cA sz) (hr : meth.sig.returnType = (some .long))  {H : Heap} {locs : List Loc} {ls : Array Slot} {v0 : Option Nat} {v1 : UInt64} {u0 : Int32} {h : Hp} (S : ab_H D cA sz h s H locs) (hl : lv_has ls 6 [(0, va_rf v0), (1, .double v1)]) (hF : f_X7_bits_25 v0 v1 u0 h = some (rr, hh)) : W p l e (ab_rm 1 0 0) s m args below meth c H locs 0 0 (MQ below (ab_Q D cA sz (some (.long rr)) hh) args s 0 0 (fun q => sz ≤ q)) (F0 m 25 ls [.int u0]) := by
  unfold f_X7_bits_25 at hF
  refine lv_istore_n (i := 3) (lv' := [(3, .int u0), (0, va_rf v0), (1, .double v1)]) X.1 X.2.1 dX7_bits_25 rfl hl (by decide) (by simp [ab_cat, ab_cI, ab_cJ, ab_cD, ab_cF]) (fun ls hl => ?_)
  refine lv_iload_n X.1 X.2.1 dX7_bits_26 rfl (lv_at hl 0 rfl) ?_
  refine lv_if_eq (tgt := 36) X.1 X.2.1 dX7_bits_27 (by decide) (fun c1 => ?_) (fun c1 => ?_)
  · have hF := ab_pos c1 hF
    refine lv_lconst (v := 0) X.1 X.2.1 dX7_bits_36 (by decide) ?_
    exact w_X7_bits_37 X hr  S (lv_sub hl [1, 2, 0] rfl) hF
  · have hF := ab_neg c1 hF
    refine lv_ldc2 (v := (-9223372036854775808)) X.1 X.2.1 X.2.2.2.1 (X.2.2.2.2.1 _ ll_X7_32) dX7_bits_30 ?_
    refine lv_goto (tgt := 37) X.1 X.2.1 dX7_bits_33 (by decide) ?_
    exact w_X7_bits_37 X hr  S (lv_sub hl [1, 2, 0] rfl) hF
def f_X7_bits_20  (v0 : Option Nat) (v1 : UInt64) (h : Hp) : Option (Int64 × Hp) :=
  f_X7_bits_25 v0 v1 1 h
set_option maxHeartbeats 4000000 in
set_option maxRecDepth 100000 in
theorem w_X7_bits_20 {p : Program} {l : Launch} {e : Env} {s : State} {m : MethodId} {args : Array Value} {below : List Frame} {meth : Method} {c : Code} {D : va_G} {cA : Nat → ClassId} {sz : Nat} {rr : Int64} {hh : Hp}  (X : ab_X p s m args meth c cX7_bits 6 RX7 D cA sz) (hr : meth.sig.returnType = (some .long))  {H : Heap} {locs : List Loc} {ls : Array Slot} {v0 : Option Nat} {v1 : UInt64} {h : Hp} (S : ab_H D cA sz h s H locs) (hl : lv_has ls 6 [(0, va_rf v0), (1, .double v1)]) (hF : f_X7_bits_20 v0 v1 h = some (rr, hh)) : W p l e (ab_rm 1 0 0) s m args below meth c H locs 0 0 (MQ below (ab_Q D cA sz (some (.long rr)) hh) args s 0 0 (fun q => sz ≤ q)) (F0 m 20 ls []) := by
  unfold f_X7_bits_20 at hF
  refine lv_iconst (v := 1) X.1 X.2.1 dX7_bits_20 (by decide) ?_
  refine lv_goto (tgt := 25) X.1 X.2.1 dX7_bits_21 (by decide) ?_
  exact w_X7_bits_25 X hr  S (lv_sub hl [0, 1] rfl) hF
def f_X7_bits_24  (v0 : Option Nat) (v1 : UInt64) (h : Hp) : Option (Int64 × Hp) :=
  f_X7_bits_25 v0 v1 0 h
set_option maxHeartbeats 4000000 in
set_option maxRecDepth 100000 in
theorem w_X7_bits_24 {p : Program} {l : Launch} {e : Env} {s : State} {m : MethodId} {args : Array Value} {below : List Frame} {meth : Method} {c : Code} {D : va_G} {cA : Nat → ClassId} {sz : Nat} {rr : Int64} {hh : Hp}  (X : ab_X p s m args meth c cX7_bits 6 RX7 D cA sz) (hr : meth.sig.returnType = (some .long))  {H : Heap} {locs : List Loc} {ls : Array Slot} {v0 : Option Nat} {v1 : UInt64} {h : Hp} (S : ab_H D cA sz h s H locs) (hl : lv_has ls 6 [(0, va_rf v0), (1, .double v1)]) (hF : f_X7_bits_24 v0 v1 h = some (rr, hh)) : W p l e (ab_rm 1 0 0) s m args below meth c H locs 0 0 (MQ below (ab_Q D cA sz (some (.long rr)) hh) args s 0 0 (fun q => sz ≤ q)) (F0 m 24 ls []) := by
  unfold f_X7_bits_24 at hF
  refine lv_iconst (v := 0) X.1 X.2.1 dX7_bits_24 (by decide) ?_
  exact w_X7_bits_25 X hr  S (lv_sub hl [0, 1] rfl) hF
def f_X7_bits (this : Nat) (p0 : UInt64) (h : Hp) : Option (Int64 × Hp) :=
  if (Op.cmpValue (FP.dcmp p0 FP.dconst0) CmpOp.g) < 0 then
    f_X7_bits_20 (some this) p0 h
  else
    if ¬ (Op.cmpValue (FP.dcmp p0 FP.dconst0) CmpOp.l) = 0 then
      f_X7_bits_24 (some this) p0 h
    else
      (fop (FP.ddiv FP.dconst1 p0)).bind fun x3 =>
      if 0 ≤ (Op.cmpValue (FP.dcmp x3 FP.dconst0) CmpOp.g) then
        f_X7_bits_24 (some this) p0 h
      else
        f_X7_bits_20 (some this) p0 h
theorem mi_X7_bits : ab_MI yX7_bits cX7_bits 6 (some .long) 1 := ⟨lc_yX7_bits, lz_RX7, by decide, by decide, by decide +kernel⟩
set_option maxHeartbeats 4000000 in
set_option maxRecDepth 100000 in
theorem c_X7_bits (l : Launch) (D : va_G) (cA : Nat → ClassId) (sz : Nat) {this : Nat} {p0 : UInt64} {h hh : Hp} {rr : Int64} (hF : f_X7_bits this p0 h = some (rr, hh)) : ab_C l D cA sz yX7_bits cX7_bits 6 (some .long) 1 0 0 [.ref this, .double p0] h (some (.long rr)) hh := by
  refine Met.ofW (cc := cX7_bits) (maxL := 6) (ret := (some .long)) (by decide) rfl ?_
  intro p e s m args below meth c s₁ B hml hv
  obtain ⟨rfl, hT, hR⟩ := hv
  have X : ab_X p s m _ meth c cX7_bits 6 RX7 D cA sz := (ab_enter B hml hT hR).1
  have S := (ab_enter B hml hT hR).2
  have hr := B.returns
  obtain ⟨ls, hls, hl⟩ := ab_entry m [.ref this, .double p0] 6 (lv := [(0, .ref this), (1, .double p0)]) (by simp [lg_sl, ab_cat, ab_cI, ab_cJ, ab_cD, ab_cF, ab_cA]) (by simp [lv_args, ab_cat, ab_cI, ab_cJ, ab_cD, ab_cF, ab_cA])
  rw [hls]
  have hl : lv_has ls 6 [(0, va_rf (some this)), (1, .double p0)] := hl
  unfold f_X7_bits at hF
  show W p l e (ab_rm 1 0 0) s m _ below meth c s.heap [] 0 0 _ _
  refine lv_dload_n X.1 X.2.1 dX7_bits_0 rfl (lv_at hl 1 rfl) ?_
  refine lv_dconst0 X.1 X.2.1 dX7_bits_1 ?_
  refine lv_dcmp X.1 X.2.1 dX7_bits_2 ?_
  refine lv_if_lt (tgt := 20) X.1 X.2.1 dX7_bits_3 (by decide) (fun c1 => ?_) (fun c1 => ?_)
  · have hF := ab_pos c1 hF
    exact w_X7_bits_20 X hr  S (lv_sub hl [0, 1] rfl) hF
  · have hF := ab_neg c1 hF
    refine lv_dload_n X.1 X.2.1 dX7_bits_6 rfl (lv_at hl 1 rfl) ?_
    refine lv_dconst0 X.1 X.2.1 dX7_bits_7 ?_
    refine lv_dcmp X.1 X.2.1 dX7_bits_8 ?_
    refine lv_if_ne (tgt := 24) X.1 X.2.1 dX7_bits_9 (by decide) (fun c2 => ?_) (fun c2 => ?_)
    · have hF := ab_pos c2 hF
      exact w_X7_bits_24 X hr  S (lv_sub hl [0, 1] rfl) hF
    · have hF := ab_neg (fun q => q c2) hF
      refine lv_dconst1 X.1 X.2.1 dX7_bits_12 ?_
      refine lv_dload_n X.1 X.2.1 dX7_bits_13 rfl (lv_at hl 1 rfl) ?_
      obtain ⟨x3, ev, ne, hF⟩ := ab_fopx hF
      refine lv_ddiv X.1 X.2.1 dX7_bits_14 ne ?_
      rw [ev]
      refine lv_dconst0 X.1 X.2.1 dX7_bits_15 ?_
      refine lv_dcmp X.1 X.2.1 dX7_bits_16 ?_
      refine lv_if_ge (tgt := 24) X.1 X.2.1 dX7_bits_17 (by decide) (fun c4 => ?_) (fun c4 => ?_)
      · have hF := ab_pos c4 hF
        exact w_X7_bits_24 X hr  S (lv_sub hl [0, 1] rfl) hF
      · have hF := ab_neg c4 hF
        exact w_X7_bits_20 X hr  S (lv_sub hl [0, 1] rfl) hF
def f_X8_law_17   (h : Hp) : Option (Int32 × Hp) :=
  some ((-1), h)
set_option maxHeartbeats 4000000 in
set_option maxRecDepth 100000 in
theorem w_X8_law_17 {p : Program} {l : Launch} {e : Env} {s : State} {m : MethodId} {args : Array Value} {below : List Frame} {meth : Method} {c : Code} {D : va_G} {cA : Nat → ClassId} {sz : Nat} {rr : Int32} {hh : Hp}  (X : ab_X p s m args meth c cX8_law 3 RX8 D cA sz) (hr : meth.sig.returnType = (some .int))  {H : Heap} {locs : List Loc} {ls : Array Slot}  {h : Hp} (S : ab_H D cA sz h s H locs) (hl : lv_has ls 3 []) (hF : f_X8_law_17  h = some (rr, hh)) : W p l e (ab_rm 3 10 8016) s m args below meth c H locs 0 0 (MQ below (ab_Q D cA sz (some (.int rr)) hh) args s 10 8016 (fun q => sz ≤ q)) (F0 m 17 ls []) := by
  unfold f_X8_law_17 at hF
  refine lv_iconst (v := (-1)) X.1 X.2.1 dX8_law_17 (by decide) ?_
  refine W.widen (k := 10) (n := 8016) (Nat.le_of_ble_eq_true rfl) (Nat.le_of_ble_eq_true rfl) ?_
  exact ab_iret X S hr hF dX8_law_18
def f_X8_law (this : Nat) (p0 : Int32) (p1 : Int32) (h : Hp) : Option (Int32 × Hp) :=
  if p0 < 1 then
    f_X8_law_17 h
  else
    if 6 < p0 then
      f_X8_law_17 h
    else
      if (p1 >>> (p0 &&& 31)) = 0 then
        (getI h (some this) 8 3).bind fun x4 =>
        if x4 < 8 then
          (getR h (some this) 8 2).bind fun x6 =>
          (getI h (some this) 8 3).bind fun x7 =>
          newo h 1 fun q9 h8 =>
          (getI h8 (some this) 8 3).bind fun x10 =>
          (getR h8 (some this) 8 4).bind fun x11 =>
          (getR h8 (some this) 8 0).bind fun x12 =>
          bnd (f_X1_init q9 x10 p0 p1 x11 x12 h8) fun _ h14 =>
          (astR h14 x6 13 x7 (some q9)).bind fun h16 =>
          (getI h16 (some this) 8 3).bind fun x17 =>
          (putI h16 (some this) 8 3 (x17 + 1)).bind fun h18 =>
          (getI h18 (some this) 8 3).bind fun x19 =>
          some (x19 - 1, h18)
        else
          some ((-3), h)
      else
        f_X8_law_17 h
theorem mi_X8_law : ab_MI yX8_law cX8_law 3 (some .int) 2 := ⟨lc_yX8_law, lz_RX8, by decide, by decide, by decide +kernel⟩
set_option maxHeartbeats 4000000 in
set_option maxRecDepth 100000 in
theorem c_X8_law (l : Launch) (D : va_G) (cA : Nat → ClassId) (sz : Nat) {this : Nat} {p0 : Int32} {p1 : Int32} {h hh : Hp} {rr : Int32} (hF : f_X8_law this p0 p1 h = some (rr, hh)) : ab_C l D cA sz yX8_law cX8_law 3 (some .int) 3 10 8016 [.ref this, .int p0, .int p1] h (some (.int rr)) hh := by
  refine Met.ofW (cc := cX8_law) (maxL := 3) (ret := (some .int)) (by decide) rfl ?_
  intro p e s m args below meth c s₁ B hml hv
  obtain ⟨rfl, hT, hR⟩ := hv
  have X : ab_X p s m _ meth c cX8_law 3 RX8 D cA sz := (ab_enter B hml hT hR).1
  have S := (ab_enter B hml hT hR).2
  have hr := B.returns
  obtain ⟨ls, hls, hl⟩ := ab_entry m [.ref this, .int p0, .int p1] 3 (lv := [(0, .ref this), (1, .int p0), (2, .int p1)]) (by simp [lg_sl, ab_cat, ab_cI, ab_cJ, ab_cD, ab_cF, ab_cA]) (by simp [lv_args, ab_cat, ab_cI, ab_cJ, ab_cD, ab_cF, ab_cA])
  rw [hls]
  have hl : lv_has ls 3 [(0, va_rf (some this)), (1, .int p0), (2, .int p1)] := hl
  unfold f_X8_law at hF
  show W p l e (ab_rm 3 10 8016) s m _ below meth c s.heap [] 0 0 _ _
  refine lv_iload_n X.1 X.2.1 dX8_law_0 rfl (lv_at hl 1 rfl) ?_
  refine lv_iconst (v := 1) X.1 X.2.1 dX8_law_1 (by decide) ?_
  refine lv_icmp_lt (tgt := 17) X.1 X.2.1 dX8_law_2 (by decide) (fun c1 => ?_) (fun c1 => ?_)
  · have hF := ab_pos c1 hF
    refine W.widen (k := 0) (n := 0) (Nat.le_of_ble_eq_true rfl) (Nat.le_of_ble_eq_true rfl) ?_
    exact w_X8_law_17 X hr  S (lv_sub hl [] rfl) hF
  · have hF := ab_neg c1 hF
    refine lv_iload_n X.1 X.2.1 dX8_law_5 rfl (lv_at hl 1 rfl) ?_
    refine lv_bipush (v := 6) X.1 X.2.1 dX8_law_6 (by decide) ?_
    refine lv_icmp_gt (tgt := 17) X.1 X.2.1 dX8_law_8 (by decide) (fun c2 => ?_) (fun c2 => ?_)
    · have hF := ab_pos c2 hF
      refine W.widen (k := 0) (n := 0) (Nat.le_of_ble_eq_true rfl) (Nat.le_of_ble_eq_true rfl) ?_
      exact w_X8_law_17 X hr  S (lv_sub hl [] rfl) hF
    · have hF := ab_neg c2 hF
      refine lv_iload_n X.1 X.2.1 dX8_law_11 rfl (lv_at hl 2 rfl) ?_
      refine lv_iload_n X.1 X.2.1 dX8_law_12 rfl (lv_at hl 1 rfl) ?_
      refine lv_ishr X.1 X.2.1 dX8_law_13 ?_
      refine lv_if_eq (tgt := 19) X.1 X.2.1 dX8_law_14 (by decide) (fun c3 => ?_) (fun c3 => ?_)
      · have hF := ab_pos c3 hF
        refine ab_aload_n X dX8_law_19 rfl (lv_at hl 0 rfl) ?_
        refine ab_getI X S hF fi_8_3 lf_X8_56 dX8_law_20 (fun x4 hF => ?_)
        refine lv_bipush (v := 8) X.1 X.2.1 dX8_law_23 (by decide) ?_
        refine lv_icmp_lt (tgt := 31) X.1 X.2.1 dX8_law_25 (by decide) (fun c5 => ?_) (fun c5 => ?_)
        · have hF := ab_pos c5 hF
          refine ab_aload_n X dX8_law_31 rfl (lv_at hl 0 rfl) ?_
          refine ab_getR X S hF fi_8_2 lf_X8_25 dX8_law_32 (fun x6 hF => ?_)
          refine ab_aload_n X dX8_law_35 rfl (lv_at hl 0 rfl) ?_
          refine ab_getI X S hF fi_8_3 lf_X8_56 dX8_law_36 (fun x7 hF => ?_)
          refine ab_newx X S hF fi_1_0 ci_1 df_1 lk_X8_23 ln_RX1_14 lz_RX1 (by decide) (by decide) dX8_law_39 (fun q9 h8 H1 hF S => ?_)
          refine lv_dup X.1 X.2.1 dX8_law_42 (by simp [ab_cat, ab_cI, ab_cJ, ab_cD, ab_cF]) ?_
          refine ab_aload_n X dX8_law_43 rfl (lv_at hl 0 rfl) ?_
          refine ab_getI X S hF fi_8_3 lf_X8_56 dX8_law_44 (fun x10 hF => ?_)
          refine lv_iload_n X.1 X.2.1 dX8_law_47 rfl (lv_at hl 1 rfl) ?_
          refine lv_iload_n X.1 X.2.1 dX8_law_48 rfl (lv_at hl 2 rfl) ?_
          refine ab_aload_n X dX8_law_49 rfl (lv_at hl 0 rfl) ?_
          refine ab_getR X S hF fi_8_4 lf_X8_31 dX8_law_50 (fun x11 hF => ?_)
          refine ab_aload_n X dX8_law_53 rfl (lv_at hl 0 rfl) ?_
          refine ab_getR X S hF fi_8_0 lf_X8_10 dX8_law_54 (fun x12 hF => ?_)
          obtain ⟨x13, h14, e15, hF⟩ := bnd_out hF
          refine ab_callIv X S (c_X1_init l D cA sz e15) mi_X1_init rfl lm_X8_60 li_yX1_init (As := [.int x10, .int p0, .int p1, va_rf x11, va_rf x12]) (rest := [va_rf (some q9), .int x7, va_rf x6]) rfl ⟨by decide, by decide⟩ ⟨(by decide), (by decide)⟩ hl.1 rfl (by simp [ab_cat, ab_cI, ab_cJ, ab_cD, ab_cF]) dX8_law_57 (fun H1 locs1 S => ?_)
          refine ab_astR X S hF rfl (by decide) rfl dX8_law_60 (fun h16 H1 locs1 hF S => ?_)
          refine ab_aload_n X dX8_law_61 rfl (lv_at hl 0 rfl) ?_
          refine lv_dup X.1 X.2.1 dX8_law_62 (by simp [ab_cat, ab_cI, ab_cJ, ab_cD, ab_cF]) ?_
          refine ab_getI X S hF fi_8_3 lf_X8_56 dX8_law_63 (fun x17 hF => ?_)
          refine lv_iconst (v := 1) X.1 X.2.1 dX8_law_66 (by decide) ?_
          refine lv_iadd X.1 X.2.1 dX8_law_67 ?_
          refine ab_putI X S hF fi_8_3 ci_8 (Or.inl rfl) rfl lf_X8_56 dX8_law_68 (fun h18 H1 locs1 hF S => ?_)
          refine ab_aload_n X dX8_law_71 rfl (lv_at hl 0 rfl) ?_
          refine ab_getI X S hF fi_8_3 lf_X8_56 dX8_law_72 (fun x19 hF => ?_)
          refine lv_iconst (v := 1) X.1 X.2.1 dX8_law_75 (by decide) ?_
          refine lv_isub X.1 X.2.1 dX8_law_76 ?_
          refine W.widen (k := 10) (n := 8016) (Nat.le_of_ble_eq_true rfl) (Nat.le_of_ble_eq_true rfl) ?_
          exact ab_iret X S hr hF dX8_law_77
        · have hF := ab_neg c5 hF
          refine lv_bipush (v := (-3)) X.1 X.2.1 dX8_law_28 (by decide) ?_
          refine W.widen (k := 10) (n := 8016) (Nat.le_of_ble_eq_true rfl) (Nat.le_of_ble_eq_true rfl) ?_
          exact ab_iret X S hr hF dX8_law_30
      · have hF := ab_neg c3 hF
        refine W.widen (k := 0) (n := 0) (Nat.le_of_ble_eq_true rfl) (Nat.le_of_ble_eq_true rfl) ?_
        exact w_X8_law_17 X hr  S (lv_sub hl [] rfl) hF
def f_X8_constant_20   (h : Hp) : Option (Int32 × Hp) :=
  some ((-1), h)
set_option maxHeartbeats 4000000 in
set_option maxRecDepth 100000 in
theorem w_X8_constant_20 {p : Program} {l : Launch} {e : Env} {s : State} {m : MethodId} {args : Array Value} {below : List Frame} {meth : Method} {c : Code} {D : va_G} {cA : Nat → ClassId} {sz : Nat} {rr : Int32} {hh : Hp}  (X : ab_X p s m args meth c cX8_constant 6 RX8 D cA sz) (hr : meth.sig.returnType = (some .int))  {H : Heap} {locs : List Loc} {ls : Array Slot}  {h : Hp} (S : ab_H D cA sz h s H locs) (hl : lv_has ls 6 []) (hF : f_X8_constant_20  h = some (rr, hh)) : W p l e (ab_rm 1 0 0) s m args below meth c H locs 0 0 (MQ below (ab_Q D cA sz (some (.int rr)) hh) args s 0 0 (fun q => sz ≤ q)) (F0 m 20 ls []) := by
  unfold f_X8_constant_20 at hF
  refine lv_iconst (v := (-1)) X.1 X.2.1 dX8_constant_20 (by decide) ?_
  exact ab_iret X S hr hF dX8_constant_21
def f_X8_constant (this : Nat) (p0 : Int32) (p1 : Int64) (p2 : Int32) (h : Hp) : Option (Int32 × Hp) :=
  (ab_ck h (some this) (8, 0)).bind fun a4 =>
  bnd (f_X8_lawAt a4 p0 h) fun x1 h2 =>
  if x1 = none then
    f_X8_constant_20 h2
  else
    bnd (f_X8_isK p2 h2) fun x7 h8 =>
    if ¬ x7 = 0 then
      bnd (f_X8_quotient p1 p2 h8) fun x11 h12 =>
      (ab_ck h12 x1 (1, 0)).bind fun a17 =>
      bnd (f_X1_add a17 13 0 0 0 x11 h12) fun x14 h15 =>
      some (x14, h15)
    else
      f_X8_constant_20 h8
theorem mi_X8_constant : ab_MI yX8_constant cX8_constant 6 (some .int) 3 := ⟨lc_yX8_constant, lz_RX8, by decide, by decide, by decide +kernel⟩
set_option maxHeartbeats 4000000 in
set_option maxRecDepth 100000 in
theorem c_X8_constant (l : Launch) (D : va_G) (cA : Nat → ClassId) (sz : Nat) {this : Nat} {p0 : Int32} {p1 : Int64} {p2 : Int32} {h hh : Hp} {rr : Int32} (hF : f_X8_constant this p0 p1 p2 h = some (rr, hh)) : ab_C l D cA sz yX8_constant cX8_constant 6 (some .int) 1 0 0 [.ref this, .int p0, .long p1, .int p2] h (some (.int rr)) hh := by
  refine Met.ofW (cc := cX8_constant) (maxL := 6) (ret := (some .int)) (by decide) rfl ?_
  intro p e s m args below meth c s₁ B hml hv
  obtain ⟨rfl, hT, hR⟩ := hv
  have X : ab_X p s m _ meth c cX8_constant 6 RX8 D cA sz := (ab_enter B hml hT hR).1
  have S := (ab_enter B hml hT hR).2
  have hr := B.returns
  obtain ⟨ls, hls, hl⟩ := ab_entry m [.ref this, .int p0, .long p1, .int p2] 6 (lv := [(0, .ref this), (1, .int p0), (2, .long p1), (4, .int p2)]) (by simp [lg_sl, ab_cat, ab_cI, ab_cJ, ab_cD, ab_cF, ab_cA]) (by simp [lv_args, ab_cat, ab_cI, ab_cJ, ab_cD, ab_cF, ab_cA])
  rw [hls]
  have hl : lv_has ls 6 [(0, va_rf (some this)), (1, .int p0), (2, .long p1), (4, .int p2)] := hl
  unfold f_X8_constant at hF
  show W p l e (ab_rm 1 0 0) s m _ below meth c s.heap [] 0 0 _ _
  refine ab_aload_n X dX8_constant_0 rfl (lv_at hl 0 rfl) ?_
  refine lv_iload_n X.1 X.2.1 dX8_constant_1 rfl (lv_at hl 1 rfl) ?_
  obtain ⟨a4, e5, hF⟩ := bind_out hF
  obtain ⟨x1, h2, e3, hF⟩ := bnd_out hF
  refine ab_callVa X S e5 (c_X8_lawAt l D cA sz e3) rfl (by decide) mi_X8_lawAt lm_X8_63 li_yX8_lawAt ls_yX8_lawAt (As := [.int p0]) (rest := []) rfl ⟨by decide, by decide⟩ ⟨(by decide), (by decide)⟩ hl.1 rfl (by simp [ab_cat, ab_cI, ab_cJ, ab_cD, ab_cF]) dX8_constant_2 (fun H1 locs1 S => ?_)
  refine ab_astore (lv' := [(5, va_rf x1), (0, va_rf (some this)), (1, .int p0), (2, .long p1), (4, .int p2)]) X dX8_constant_5 hl (by decide) (by simp [ab_cat, ab_cI, ab_cJ, ab_cD, ab_cF]) (fun ls hl => ?_)
  refine ab_aload X dX8_constant_7 (lv_at hl 0 rfl) ?_
  refine ab_ifnull (tgt := 20) X dX8_constant_9 (by decide) (fun c6 => ?_) (fun c6 => ?_)
  · have hF := ab_pos c6 hF
    exact w_X8_constant_20 X hr  S (lv_sub hl [] rfl) hF
  · have hF := ab_neg c6 hF
    refine lv_iload X.1 X.2.1 dX8_constant_12 (lv_at hl 4 rfl) ?_
    obtain ⟨x7, h8, e9, hF⟩ := bnd_out hF
    refine ab_callSi X S (c_X8_isK l D cA sz e9) mi_X8_isK lm_X8_67 lt_yX8_isK (As := [.int p2]) (rest := []) rfl ⟨by decide, by decide⟩ ⟨(by decide), (by decide)⟩ hl.1 rfl (by simp [ab_cat, ab_cI, ab_cJ, ab_cD, ab_cF]) dX8_constant_14 (fun H1 locs1 S => ?_)
    refine lv_if_ne (tgt := 22) X.1 X.2.1 dX8_constant_17 (by decide) (fun c10 => ?_) (fun c10 => ?_)
    · have hF := ab_pos c10 hF
      refine ab_aload X dX8_constant_22 (lv_at hl 0 rfl) ?_
      refine lv_bipush (v := 13) X.1 X.2.1 dX8_constant_24 (by decide) ?_
      refine lv_iconst (v := 0) X.1 X.2.1 dX8_constant_26 (by decide) ?_
      refine lv_iconst (v := 0) X.1 X.2.1 dX8_constant_27 (by decide) ?_
      refine lv_iconst (v := 0) X.1 X.2.1 dX8_constant_28 (by decide) ?_
      refine lv_lload_n X.1 X.2.1 dX8_constant_29 rfl (lv_at hl 3 rfl) ?_
      refine lv_iload X.1 X.2.1 dX8_constant_30 (lv_at hl 4 rfl) ?_
      obtain ⟨x11, h12, e13, hF⟩ := bnd_out hF
      refine ab_callSd X S (c_X8_quotient l D cA sz e13) mi_X8_quotient lm_X8_71 lt_yX8_quotient (As := [.long p1, .int p2]) (rest := [.int 0, .int 0, .int 0, .int 13, va_rf x1]) rfl ⟨by decide, by decide⟩ ⟨(by decide), (by decide)⟩ hl.1 rfl (by simp [ab_cat, ab_cI, ab_cJ, ab_cD, ab_cF]) dX8_constant_32 (fun H1 locs1 S => ?_)
      obtain ⟨a17, e18, hF⟩ := bind_out hF
      obtain ⟨x14, h15, e16, hF⟩ := bnd_out hF
      refine ab_callVi X S e18 (c_X1_add l D cA sz e16) rfl (by decide) mi_X1_add lm_X8_75 li_yX1_add ls_yX1_add (As := [.int 13, .int 0, .int 0, .int 0, .double x11]) (rest := []) rfl ⟨by decide, by decide⟩ ⟨(by decide), (by decide)⟩ hl.1 rfl (by simp [ab_cat, ab_cI, ab_cJ, ab_cD, ab_cF]) dX8_constant_35 (fun H1 locs1 S => ?_)
      exact ab_iret X S hr hF dX8_constant_38
    · have hF := ab_neg (fun q => q c10) hF
      exact w_X8_constant_20 X hr  S (lv_sub hl [] rfl) hF
def f_X8_node_27   (h : Hp) : Option (Int32 × Hp) :=
  some ((-1), h)
set_option maxHeartbeats 4000000 in
set_option maxRecDepth 100000 in
theorem w_X8_node_27 {p : Program} {l : Launch} {e : Env} {s : State} {m : MethodId} {args : Array Value} {below : List Frame} {meth : Method} {c : Code} {D : va_G} {cA : Nat → ClassId} {sz : Nat} {rr : Int32} {hh : Hp}  (X : ab_X p s m args meth c cX8_node 7 RX8 D cA sz) (hr : meth.sig.returnType = (some .int))  {H : Heap} {locs : List Loc} {ls : Array Slot}  {h : Hp} (S : ab_H D cA sz h s H locs) (hl : lv_has ls 7 []) (hF : f_X8_node_27  h = some (rr, hh)) : W p l e (ab_rm 2 0 0) s m args below meth c H locs 0 0 (MQ below (ab_Q D cA sz (some (.int rr)) hh) args s 0 0 (fun q => sz ≤ q)) (F0 m 27 ls []) := by
  unfold f_X8_node_27 at hF
  refine lv_iconst (v := (-1)) X.1 X.2.1 dX8_node_27 (by decide) ?_
  exact ab_iret X S hr hF dX8_node_28
def f_X8_node (this : Nat) (p0 : Int32) (p1 : Int32) (p2 : Int32) (p3 : Int32) (p4 : Int32) (h : Hp) : Option (Int32 × Hp) :=
  (ab_ck h (some this) (8, 0)).bind fun a4 =>
  bnd (f_X8_lawAt a4 p0 h) fun x1 h2 =>
  if x1 = none then
    f_X8_node_27 h2
  else
    (ab_ck h2 (some this) (8, 0)).bind fun a10 =>
    bnd (f_X8_fits a10 x1 p1 p2 p3 p4 h2) fun x7 h8 =>
    if ¬ x7 = 0 then
      (ab_ck h8 x1 (1, 0)).bind fun a16 =>
      bnd (f_X1_add a16 p1 p2 p3 p4 FP.dconst0 h8) fun x13 h14 =>
      some (x13, h14)
    else
      f_X8_node_27 h8
theorem mi_X8_node : ab_MI yX8_node cX8_node 7 (some .int) 5 := ⟨lc_yX8_node, lz_RX8, by decide, by decide, by decide +kernel⟩
set_option maxHeartbeats 4000000 in
set_option maxRecDepth 100000 in
theorem c_X8_node (l : Launch) (D : va_G) (cA : Nat → ClassId) (sz : Nat) {this : Nat} {p0 : Int32} {p1 : Int32} {p2 : Int32} {p3 : Int32} {p4 : Int32} {h hh : Hp} {rr : Int32} (hF : f_X8_node this p0 p1 p2 p3 p4 h = some (rr, hh)) : ab_C l D cA sz yX8_node cX8_node 7 (some .int) 2 0 0 [.ref this, .int p0, .int p1, .int p2, .int p3, .int p4] h (some (.int rr)) hh := by
  refine Met.ofW (cc := cX8_node) (maxL := 7) (ret := (some .int)) (by decide) rfl ?_
  intro p e s m args below meth c s₁ B hml hv
  obtain ⟨rfl, hT, hR⟩ := hv
  have X : ab_X p s m _ meth c cX8_node 7 RX8 D cA sz := (ab_enter B hml hT hR).1
  have S := (ab_enter B hml hT hR).2
  have hr := B.returns
  obtain ⟨ls, hls, hl⟩ := ab_entry m [.ref this, .int p0, .int p1, .int p2, .int p3, .int p4] 7 (lv := [(0, .ref this), (1, .int p0), (2, .int p1), (3, .int p2), (4, .int p3), (5, .int p4)]) (by simp [lg_sl, ab_cat, ab_cI, ab_cJ, ab_cD, ab_cF, ab_cA]) (by simp [lv_args, ab_cat, ab_cI, ab_cJ, ab_cD, ab_cF, ab_cA])
  rw [hls]
  have hl : lv_has ls 7 [(0, va_rf (some this)), (1, .int p0), (2, .int p1), (3, .int p2), (4, .int p3), (5, .int p4)] := hl
  unfold f_X8_node at hF
  show W p l e (ab_rm 2 0 0) s m _ below meth c s.heap [] 0 0 _ _
  refine ab_aload_n X dX8_node_0 rfl (lv_at hl 0 rfl) ?_
  refine lv_iload_n X.1 X.2.1 dX8_node_1 rfl (lv_at hl 1 rfl) ?_
  obtain ⟨a4, e5, hF⟩ := bind_out hF
  obtain ⟨x1, h2, e3, hF⟩ := bnd_out hF
  refine ab_callVa X S e5 (c_X8_lawAt l D cA sz e3) rfl (by decide) mi_X8_lawAt lm_X8_63 li_yX8_lawAt ls_yX8_lawAt (As := [.int p0]) (rest := []) rfl ⟨by decide, by decide⟩ ⟨(by decide), (by decide)⟩ hl.1 rfl (by simp [ab_cat, ab_cI, ab_cJ, ab_cD, ab_cF]) dX8_node_2 (fun H1 locs1 S => ?_)
  refine ab_astore (lv' := [(6, va_rf x1), (0, va_rf (some this)), (1, .int p0), (2, .int p1), (3, .int p2), (4, .int p3), (5, .int p4)]) X dX8_node_5 hl (by decide) (by simp [ab_cat, ab_cI, ab_cJ, ab_cD, ab_cF]) (fun ls hl => ?_)
  refine ab_aload X dX8_node_7 (lv_at hl 0 rfl) ?_
  refine ab_ifnull (tgt := 27) X dX8_node_9 (by decide) (fun c6 => ?_) (fun c6 => ?_)
  · have hF := ab_pos c6 hF
    exact w_X8_node_27 X hr  S (lv_sub hl [] rfl) hF
  · have hF := ab_neg c6 hF
    refine ab_aload_n X dX8_node_12 rfl (lv_at hl 1 rfl) ?_
    refine ab_aload X dX8_node_13 (lv_at hl 0 rfl) ?_
    refine lv_iload_n X.1 X.2.1 dX8_node_15 rfl (lv_at hl 3 rfl) ?_
    refine lv_iload_n X.1 X.2.1 dX8_node_16 rfl (lv_at hl 4 rfl) ?_
    refine lv_iload X.1 X.2.1 dX8_node_17 (lv_at hl 5 rfl) ?_
    refine lv_iload X.1 X.2.1 dX8_node_19 (lv_at hl 6 rfl) ?_
    obtain ⟨a10, e11, hF⟩ := bind_out hF
    obtain ⟨x7, h8, e9, hF⟩ := bnd_out hF
    refine ab_callVi X S e11 (c_X8_fits l D cA sz e9) rfl (by decide) mi_X8_fits lm_X8_79 li_yX8_fits ls_yX8_fits (As := [va_rf x1, .int p1, .int p2, .int p3, .int p4]) (rest := []) rfl ⟨by decide, by decide⟩ ⟨(by decide), (by decide)⟩ hl.1 rfl (by simp [ab_cat, ab_cI, ab_cJ, ab_cD, ab_cF]) dX8_node_21 (fun H1 locs1 S => ?_)
    refine lv_if_ne (tgt := 29) X.1 X.2.1 dX8_node_24 (by decide) (fun c12 => ?_) (fun c12 => ?_)
    · have hF := ab_pos c12 hF
      refine ab_aload X dX8_node_29 (lv_at hl 0 rfl) ?_
      refine lv_iload_n X.1 X.2.1 dX8_node_31 rfl (lv_at hl 3 rfl) ?_
      refine lv_iload_n X.1 X.2.1 dX8_node_32 rfl (lv_at hl 4 rfl) ?_
      refine lv_iload X.1 X.2.1 dX8_node_33 (lv_at hl 5 rfl) ?_
      refine lv_iload X.1 X.2.1 dX8_node_35 (lv_at hl 6 rfl) ?_
      refine lv_dconst0 X.1 X.2.1 dX8_node_37 ?_
      obtain ⟨a16, e17, hF⟩ := bind_out hF
      obtain ⟨x13, h14, e15, hF⟩ := bnd_out hF
      refine ab_callVi X S e17 (c_X1_add l D cA sz e15) rfl (by decide) mi_X1_add lm_X8_75 li_yX1_add ls_yX1_add (As := [.int p1, .int p2, .int p3, .int p4, .double FP.dconst0]) (rest := []) rfl ⟨by decide, by decide⟩ ⟨(by decide), (by decide)⟩ hl.1 rfl (by simp [ab_cat, ab_cI, ab_cJ, ab_cD, ab_cF]) dX8_node_38 (fun H1 locs1 S => ?_)
      exact ab_iret X S hr hF dX8_node_41
    · have hF := ab_neg (fun q => q c12) hF
      exact w_X8_node_27 X hr  S (lv_sub hl [] rfl) hF
def f_X8_side_30   (h : Hp) : Option (Int32 × Hp) :=
  some ((-1), h)
set_option maxHeartbeats 4000000 in
set_option maxRecDepth 100000 in
theorem w_X8_side_30 {p : Program} {l : Launch} {e : Env} {s : State} {m : MethodId} {args : Array Value} {below : List Frame} {meth : Method} {c : Code} {D : va_G} {cA : Nat → ClassId} {sz : Nat} {rr : Int32} {hh : Hp}  (X : ab_X p s m args meth c cX8_side 7 RX8 D cA sz) (hr : meth.sig.returnType = (some .int))  {H : Heap} {locs : List Loc} {ls : Array Slot}  {h : Hp} (S : ab_H D cA sz h s H locs) (hl : lv_has ls 7 []) (hF : f_X8_side_30  h = some (rr, hh)) : W p l e (ab_rm 2 0 0) s m args below meth c H locs 0 0 (MQ below (ab_Q D cA sz (some (.int rr)) hh) args s 0 0 (fun q => sz ≤ q)) (F0 m 30 ls []) := by
  unfold f_X8_side_30 at hF
  refine lv_iconst (v := (-1)) X.1 X.2.1 dX8_side_30 (by decide) ?_
  exact ab_iret X S hr hF dX8_side_31
def f_X8_side_71 (k_35 : Option Nat → Int32 → Int32 → Option Nat → Int32 → Hp → Option (Int32 × Hp)) (v0 : Option Nat) (v2 : Int32) (v3 : Int32) (v4 : Option Nat) (v5 : Int32) (h : Hp) : Option (Int32 × Hp) :=
  k_35 v0 v2 v3 v4 (v5 + 1) h
set_option maxHeartbeats 4000000 in
set_option maxRecDepth 100000 in
theorem w_X8_side_71 {p : Program} {l : Launch} {e : Env} {s : State} {m : MethodId} {args : Array Value} {below : List Frame} {meth : Method} {c : Code} {D : va_G} {cA : Nat → ClassId} {sz : Nat} {rr : Int32} {hh : Hp} {k_35 : Option Nat → Int32 → Int32 → Option Nat → Int32 → Hp → Option (Int32 × Hp)} (X : ab_X p s m args meth c cX8_side 7 RX8 D cA sz) (hr : meth.sig.returnType = (some .int)) (hk_35 : ∀ (v0 : Option Nat) (v2 : Int32) (v3 : Int32) (v4 : Option Nat) (v5 : Int32) (h : Hp) (H : Heap) (locs : List Loc) (ls : Array Slot), ab_H D cA sz h s H locs → lv_has ls 7 [(0, va_rf v0), (2, .int v2), (3, .int v3), (4, va_rf v4), (5, .int v5)] → k_35 v0 v2 v3 v4 v5 h = some (rr, hh) → W p l e (ab_rm 2 0 0) s m args below meth c H locs 0 0 (MQ below (ab_Q D cA sz (some (.int rr)) hh) args s 0 0 (fun q => sz ≤ q)) (F0 m 35 ls [])) {H : Heap} {locs : List Loc} {ls : Array Slot} {v0 : Option Nat} {v2 : Int32} {v3 : Int32} {v4 : Option Nat} {v5 : Int32} {h : Hp} (S : ab_H D cA sz h s H locs) (hl : lv_has ls 7 [(0, va_rf v0), (2, .int v2), (3, .int v3), (4, va_rf v4), (5, .int v5)]) (hF : f_X8_side_71 k_35 v0 v2 v3 v4 v5 h = some (rr, hh)) : W p l e (ab_rm 2 0 0) s m args below meth c H locs 0 0 (MQ below (ab_Q D cA sz (some (.int rr)) hh) args s 0 0 (fun q => sz ≤ q)) (F0 m 71 ls []) := by
  unfold f_X8_side_71 at hF
  refine lv_iinc (v := v5 + 1) (lv' := [(5, .int (v5 + 1)), (0, va_rf v0), (2, .int v2), (3, .int v3), (4, va_rf v4)]) X.1 X.2.1 dX8_side_71 hl (k := 4) rfl (by rfl) (by decide) (by simp [ab_cat, ab_cI, ab_cJ, ab_cD, ab_cF]) (fun ls hl => ?_)
  refine lv_goto (tgt := 35) X.1 X.2.1 dX8_side_74 (by decide) ?_
  exact hk_35 _ _ _ _ _ _ _ _ _ S (lv_sub hl [1, 2, 3, 4, 0] rfl) hF
def f_X8_side_35  : Nat → Option Nat → Int32 → Int32 → Option Nat → Int32 → Hp → Option (Int32 × Hp)
  | 0, _, _, _, _, _, _ => none
  | n + 1, v0, v2, v3, v4, v5, h => (getI h v0 8 7).bind fun x1 =>
    if x1 ≤ v5 then
      (ab_ck h v4 (1, 0)).bind fun a6 =>
      bnd (f_X1_putSide a6 v2 v3 h) fun _ h4 =>
      some (1, h4)
    else
      (getR h v0 8 6).bind fun x8 =>
      (aldR h x8 15 v5).bind fun x9 =>
      if x9 = none then
        f_X8_side_71 (f_X8_side_35 n) v0 v2 v3 v4 v5 h
      else
        (getR h x9 4 0).bind fun x11 =>
        if ¬ x11 = v4 then
          f_X8_side_71 (f_X8_side_35 n) v0 v2 v3 v4 v5 h
        else
          some ((-2), h)
set_option maxHeartbeats 4000000 in
set_option maxRecDepth 100000 in
theorem w_X8_side_35 {p : Program} {l : Launch} {e : Env} {s : State} {m : MethodId} {args : Array Value} {below : List Frame} {meth : Method} {c : Code} {D : va_G} {cA : Nat → ClassId} {sz : Nat} {rr : Int32} {hh : Hp}  (X : ab_X p s m args meth c cX8_side 7 RX8 D cA sz) (hr : meth.sig.returnType = (some .int))  (n : Nat) : ∀ (v0 : Option Nat) (v2 : Int32) (v3 : Int32) (v4 : Option Nat) (v5 : Int32) (h : Hp) (H : Heap) (locs : List Loc) (ls : Array Slot), ab_H D cA sz h s H locs → lv_has ls 7 [(0, va_rf v0), (2, .int v2), (3, .int v3), (4, va_rf v4), (5, .int v5)] → f_X8_side_35 n v0 v2 v3 v4 v5 h = some (rr, hh) → W p l e (ab_rm 2 0 0) s m args below meth c H locs 0 0 (MQ below (ab_Q D cA sz (some (.int rr)) hh) args s 0 0 (fun q => sz ≤ q)) (F0 m 35 ls []) := by
  induction n with
  | zero => intro v0 v2 v3 v4 v5 h H locs ls S hl hF; cases hF
  | succ n ih =>
    intro v0 v2 v3 v4 v5 h H locs ls S hl hF
    rw [f_X8_side_35] at hF
    refine lv_iload X.1 X.2.1 dX8_side_35 (lv_at hl 4 rfl) ?_
    refine ab_aload_n X dX8_side_37 rfl (lv_at hl 0 rfl) ?_
    refine ab_getI X S hF fi_8_7 lf_X8_89 dX8_side_38 (fun x1 hF => ?_)
    refine lv_icmp_ge (tgt := 77) X.1 X.2.1 dX8_side_41 (by decide) (fun c2 => ?_) (fun c2 => ?_)
    · have hF := ab_pos c2 hF
      refine ab_aload X dX8_side_77 (lv_at hl 3 rfl) ?_
      refine lv_iload_n X.1 X.2.1 dX8_side_79 rfl (lv_at hl 1 rfl) ?_
      refine lv_iload_n X.1 X.2.1 dX8_side_80 rfl (lv_at hl 2 rfl) ?_
      obtain ⟨a6, e7, hF⟩ := bind_out hF
      obtain ⟨x3, h4, e5, hF⟩ := bnd_out hF
      refine ab_callVv X S e7 (c_X1_putSide l D cA sz e5) rfl (by decide) mi_X1_putSide lm_X8_96 li_yX1_putSide ls_yX1_putSide (As := [.int v2, .int v3]) (rest := []) rfl ⟨by decide, by decide⟩ ⟨(by decide), (by decide)⟩ hl.1 rfl (by simp [ab_cat, ab_cI, ab_cJ, ab_cD, ab_cF]) dX8_side_81 (fun H1 locs1 S => ?_)
      refine lv_iconst (v := 1) X.1 X.2.1 dX8_side_84 (by decide) ?_
      exact ab_iret X S hr hF dX8_side_85
    · have hF := ab_neg c2 hF
      refine ab_aload_n X dX8_side_44 rfl (lv_at hl 0 rfl) ?_
      refine ab_getR X S hF fi_8_6 lf_X8_37 dX8_side_45 (fun x8 hF => ?_)
      refine lv_iload X.1 X.2.1 dX8_side_48 (lv_at hl 4 rfl) ?_
      refine ab_aldR X S hF rfl (by decide) dX8_side_50 (fun x9 hF => ?_)
      refine ab_astore (lv' := [(6, va_rf x9), (0, va_rf v0), (2, .int v2), (3, .int v3), (4, va_rf v4), (5, .int v5)]) X dX8_side_51 hl (by decide) (by simp [ab_cat, ab_cI, ab_cJ, ab_cD, ab_cF]) (fun ls hl => ?_)
      refine ab_aload X dX8_side_53 (lv_at hl 0 rfl) ?_
      refine ab_ifnull (tgt := 71) X dX8_side_55 (by decide) (fun c10 => ?_) (fun c10 => ?_)
      · have hF := ab_pos c10 hF
        exact w_X8_side_71 X hr ih S (lv_sub hl [1, 2, 3, 4, 5] rfl) hF
      · have hF := ab_neg c10 hF
        refine ab_aload X dX8_side_58 (lv_at hl 0 rfl) ?_
        refine ab_getR X S hF fi_4_0 lf_X8_92 dX8_side_60 (fun x11 hF => ?_)
        refine ab_aload X dX8_side_63 (lv_at hl 4 rfl) ?_
        refine lv_acmp_ne (tgt := 71) X.1 X.2.1 dX8_side_65 (by decide) (fun c12 => ?_) (fun c12 => ?_)
        · have hF := ab_pos c12 hF
          exact w_X8_side_71 X hr ih S (lv_sub hl [1, 2, 3, 4, 5] rfl) hF
        · have hF := ab_neg (fun q => q c12) hF
          refine lv_bipush (v := (-2)) X.1 X.2.1 dX8_side_68 (by decide) ?_
          exact ab_iret X S hr hF dX8_side_70
def f_X8_side (this : Nat) (p0 : Int32) (p1 : Int32) (p2 : Int32) (h : Hp) : Option (Int32 × Hp) :=
  (ab_ck h (some this) (8, 0)).bind fun a4 =>
  bnd (f_X8_lawAt a4 p0 h) fun x1 h2 =>
  if x1 = none then
    f_X8_side_30 h2
  else
    (ab_ck h2 x1 (1, 0)).bind fun a10 =>
    bnd (f_X1_hasVariable a10 p1 h2) fun x7 h8 =>
    if x7 = 0 then
      f_X8_side_30 h8
    else
      (ab_ck h8 x1 (1, 0)).bind fun a16 =>
      bnd (f_X1_hasNode a16 p2 h8) fun x13 h14 =>
      if ¬ x13 = 0 then
        f_X8_side_35 fuelN (some this) p1 p2 x1 0 h14
      else
        f_X8_side_30 h14
theorem mi_X8_side : ab_MI yX8_side cX8_side 7 (some .int) 3 := ⟨lc_yX8_side, lz_RX8, by decide, by decide, by decide +kernel⟩
set_option maxHeartbeats 4000000 in
set_option maxRecDepth 100000 in
theorem c_X8_side (l : Launch) (D : va_G) (cA : Nat → ClassId) (sz : Nat) {this : Nat} {p0 : Int32} {p1 : Int32} {p2 : Int32} {h hh : Hp} {rr : Int32} (hF : f_X8_side this p0 p1 p2 h = some (rr, hh)) : ab_C l D cA sz yX8_side cX8_side 7 (some .int) 2 0 0 [.ref this, .int p0, .int p1, .int p2] h (some (.int rr)) hh := by
  refine Met.ofW (cc := cX8_side) (maxL := 7) (ret := (some .int)) (by decide) rfl ?_
  intro p e s m args below meth c s₁ B hml hv
  obtain ⟨rfl, hT, hR⟩ := hv
  have X : ab_X p s m _ meth c cX8_side 7 RX8 D cA sz := (ab_enter B hml hT hR).1
  have S := (ab_enter B hml hT hR).2
  have hr := B.returns
  obtain ⟨ls, hls, hl⟩ := ab_entry m [.ref this, .int p0, .int p1, .int p2] 7 (lv := [(0, .ref this), (1, .int p0), (2, .int p1), (3, .int p2)]) (by simp [lg_sl, ab_cat, ab_cI, ab_cJ, ab_cD, ab_cF, ab_cA]) (by simp [lv_args, ab_cat, ab_cI, ab_cJ, ab_cD, ab_cF, ab_cA])
  rw [hls]
  have hl : lv_has ls 7 [(0, va_rf (some this)), (1, .int p0), (2, .int p1), (3, .int p2)] := hl
  unfold f_X8_side at hF
  show W p l e (ab_rm 2 0 0) s m _ below meth c s.heap [] 0 0 _ _
  refine ab_aload_n X dX8_side_0 rfl (lv_at hl 0 rfl) ?_
  refine lv_iload_n X.1 X.2.1 dX8_side_1 rfl (lv_at hl 1 rfl) ?_
  obtain ⟨a4, e5, hF⟩ := bind_out hF
  obtain ⟨x1, h2, e3, hF⟩ := bnd_out hF
  refine ab_callVa X S e5 (c_X8_lawAt l D cA sz e3) rfl (by decide) mi_X8_lawAt lm_X8_63 li_yX8_lawAt ls_yX8_lawAt (As := [.int p0]) (rest := []) rfl ⟨by decide, by decide⟩ ⟨(by decide), (by decide)⟩ hl.1 rfl (by simp [ab_cat, ab_cI, ab_cJ, ab_cD, ab_cF]) dX8_side_2 (fun H1 locs1 S => ?_)
  refine ab_astore (lv' := [(4, va_rf x1), (0, va_rf (some this)), (1, .int p0), (2, .int p1), (3, .int p2)]) X dX8_side_5 hl (by decide) (by simp [ab_cat, ab_cI, ab_cJ, ab_cD, ab_cF]) (fun ls hl => ?_)
  refine ab_aload X dX8_side_7 (lv_at hl 0 rfl) ?_
  refine ab_ifnull (tgt := 30) X dX8_side_9 (by decide) (fun c6 => ?_) (fun c6 => ?_)
  · have hF := ab_pos c6 hF
    exact w_X8_side_30 X hr  S (lv_sub hl [] rfl) hF
  · have hF := ab_neg c6 hF
    refine ab_aload X dX8_side_12 (lv_at hl 0 rfl) ?_
    refine lv_iload_n X.1 X.2.1 dX8_side_14 rfl (lv_at hl 3 rfl) ?_
    obtain ⟨a10, e11, hF⟩ := bind_out hF
    obtain ⟨x7, h8, e9, hF⟩ := bnd_out hF
    refine ab_callVi X S e11 (c_X1_hasVariable l D cA sz e9) rfl (by decide) mi_X1_hasVariable lm_X8_83 li_yX1_hasVariable ls_yX1_hasVariable (As := [.int p1]) (rest := []) rfl ⟨by decide, by decide⟩ ⟨(by decide), (by decide)⟩ hl.1 rfl (by simp [ab_cat, ab_cI, ab_cJ, ab_cD, ab_cF]) dX8_side_15 (fun H1 locs1 S => ?_)
    refine lv_if_eq (tgt := 30) X.1 X.2.1 dX8_side_18 (by decide) (fun c12 => ?_) (fun c12 => ?_)
    · have hF := ab_pos c12 hF
      exact w_X8_side_30 X hr  S (lv_sub hl [] rfl) hF
    · have hF := ab_neg c12 hF
      refine ab_aload X dX8_side_21 (lv_at hl 0 rfl) ?_
      refine lv_iload_n X.1 X.2.1 dX8_side_23 rfl (lv_at hl 4 rfl) ?_
      obtain ⟨a16, e17, hF⟩ := bind_out hF
      obtain ⟨x13, h14, e15, hF⟩ := bnd_out hF
      refine ab_callVi X S e17 (c_X1_hasNode l D cA sz e15) rfl (by decide) mi_X1_hasNode lm_X8_86 li_yX1_hasNode ls_yX1_hasNode (As := [.int p2]) (rest := []) rfl ⟨by decide, by decide⟩ ⟨(by decide), (by decide)⟩ hl.1 rfl (by simp [ab_cat, ab_cI, ab_cJ, ab_cD, ab_cF]) dX8_side_24 (fun H1 locs1 S => ?_)
      refine lv_if_ne (tgt := 32) X.1 X.2.1 dX8_side_27 (by decide) (fun c18 => ?_) (fun c18 => ?_)
      · have hF := ab_pos c18 hF
        refine lv_iconst (v := 0) X.1 X.2.1 dX8_side_32 (by decide) ?_
        refine lv_istore (lv' := [(5, .int 0), (4, va_rf x1), (0, va_rf (some this)), (1, .int p0), (2, .int p1), (3, .int p2)]) X.1 X.2.1 dX8_side_33 hl (by decide) (by simp [ab_cat, ab_cI, ab_cJ, ab_cD, ab_cF]) (fun ls hl => ?_)
        exact w_X8_side_35 X hr  fuelN _ _ _ _ _ _ _ _ _ S (lv_sub hl [2, 4, 5, 1, 0] rfl) hF
      · have hF := ab_neg (fun q => q c18) hF
        exact w_X8_side_30 X hr  S (lv_sub hl [] rfl) hF
def f_X8_point_20   (h : Hp) : Option (Int32 × Hp) :=
  some ((-1), h)
set_option maxHeartbeats 4000000 in
set_option maxRecDepth 100000 in
theorem w_X8_point_20 {p : Program} {l : Launch} {e : Env} {s : State} {m : MethodId} {args : Array Value} {below : List Frame} {meth : Method} {c : Code} {D : va_G} {cA : Nat → ClassId} {sz : Nat} {rr : Int32} {hh : Hp}  (X : ab_X p s m args meth c cX8_point 8 RX8 D cA sz) (hr : meth.sig.returnType = (some .int))  {H : Heap} {locs : List Loc} {ls : Array Slot}  {h : Hp} (S : ab_H D cA sz h s H locs) (hl : lv_has ls 8 []) (hF : f_X8_point_20  h = some (rr, hh)) : W p l e (ab_rm 1 0 0) s m args below meth c H locs 0 0 (MQ below (ab_Q D cA sz (some (.int rr)) hh) args s 0 0 (fun q => sz ≤ q)) (F0 m 20 ls []) := by
  unfold f_X8_point_20 at hF
  refine lv_iconst (v := (-1)) X.1 X.2.1 dX8_point_20 (by decide) ?_
  exact ab_iret X S hr hF dX8_point_21
def f_X8_point_57  (u0 : Int32) (h : Hp) : Option (Int32 × Hp) :=
  some (u0, h)
set_option maxHeartbeats 4000000 in
set_option maxRecDepth 100000 in
theorem w_X8_point_57 {p : Program} {l : Launch} {e : Env} {s : State} {m : MethodId} {args : Array Value} {below : List Frame} {meth : Method} {c : Code} {D : va_G} {cA : Nat → ClassId} {sz : Nat} {rr : Int32} {hh : Hp}  (X : ab_X p s m args meth c cX8_point 8 RX8 D cA sz) (hr : meth.sig.returnType = (some .int))  {H : Heap} {locs : List Loc} {ls : Array Slot} {u0 : Int32} {h : Hp} (S : ab_H D cA sz h s H locs) (hl : lv_has ls 8 []) (hF : f_X8_point_57 u0 h = some (rr, hh)) : W p l e (ab_rm 1 0 0) s m args below meth c H locs 0 0 (MQ below (ab_Q D cA sz (some (.int rr)) hh) args s 0 0 (fun q => sz ≤ q)) (F0 m 57 ls [.int u0]) := by
  unfold f_X8_point_57 at hF
  exact ab_iret X S hr hF dX8_point_57
def f_X8_point (this : Nat) (p0 : Int32) (p1 : Int64) (p2 : Int64) (p3 : Int32) (h : Hp) : Option (Int32 × Hp) :=
  if p0 < 0 then
    f_X8_point_20 h
  else
    (getI h (some this) 8 5).bind fun x2 =>
    if x2 ≤ p0 then
      f_X8_point_20 h
    else
      bnd (f_X8_isK p3 h) fun x4 h5 =>
      if ¬ x4 = 0 then
        (getR h5 (some this) 8 4).bind fun x8 =>
        (aldR h5 x8 16 p0).bind fun x9 =>
        if ¬ x9 = none then
          bnd (f_X8_quotient p1 p3 h5) fun x11 h12 =>
          bnd (f_X8_quotient p2 p3 h12) fun x14 h15 =>
          (ab_ck h15 x9 (5, 0)).bind fun a20 =>
          bnd (f_X5_add a20 x11 x14 h15) fun x17 h18 =>
          f_X8_point_57 x17 h18
        else
          f_X8_point_57 (-1) h5
      else
        f_X8_point_20 h5
theorem mi_X8_point : ab_MI yX8_point cX8_point 8 (some .int) 4 := ⟨lc_yX8_point, lz_RX8, by decide, by decide, by decide +kernel⟩
set_option maxHeartbeats 4000000 in
set_option maxRecDepth 100000 in
theorem c_X8_point (l : Launch) (D : va_G) (cA : Nat → ClassId) (sz : Nat) {this : Nat} {p0 : Int32} {p1 : Int64} {p2 : Int64} {p3 : Int32} {h hh : Hp} {rr : Int32} (hF : f_X8_point this p0 p1 p2 p3 h = some (rr, hh)) : ab_C l D cA sz yX8_point cX8_point 8 (some .int) 1 0 0 [.ref this, .int p0, .long p1, .long p2, .int p3] h (some (.int rr)) hh := by
  refine Met.ofW (cc := cX8_point) (maxL := 8) (ret := (some .int)) (by decide) rfl ?_
  intro p e s m args below meth c s₁ B hml hv
  obtain ⟨rfl, hT, hR⟩ := hv
  have X : ab_X p s m _ meth c cX8_point 8 RX8 D cA sz := (ab_enter B hml hT hR).1
  have S := (ab_enter B hml hT hR).2
  have hr := B.returns
  obtain ⟨ls, hls, hl⟩ := ab_entry m [.ref this, .int p0, .long p1, .long p2, .int p3] 8 (lv := [(0, .ref this), (1, .int p0), (2, .long p1), (4, .long p2), (6, .int p3)]) (by simp [lg_sl, ab_cat, ab_cI, ab_cJ, ab_cD, ab_cF, ab_cA]) (by simp [lv_args, ab_cat, ab_cI, ab_cJ, ab_cD, ab_cF, ab_cA])
  rw [hls]
  have hl : lv_has ls 8 [(0, va_rf (some this)), (1, .int p0), (2, .long p1), (4, .long p2), (6, .int p3)] := hl
  unfold f_X8_point at hF
  show W p l e (ab_rm 1 0 0) s m _ below meth c s.heap [] 0 0 _ _
  refine lv_iload_n X.1 X.2.1 dX8_point_0 rfl (lv_at hl 1 rfl) ?_
  refine lv_if_lt (tgt := 20) X.1 X.2.1 dX8_point_1 (by decide) (fun c1 => ?_) (fun c1 => ?_)
  · have hF := ab_pos c1 hF
    exact w_X8_point_20 X hr  S (lv_sub hl [] rfl) hF
  · have hF := ab_neg c1 hF
    refine lv_iload_n X.1 X.2.1 dX8_point_4 rfl (lv_at hl 1 rfl) ?_
    refine ab_aload_n X dX8_point_5 rfl (lv_at hl 0 rfl) ?_
    refine ab_getI X S hF fi_8_5 lf_X8_100 dX8_point_6 (fun x2 hF => ?_)
    refine lv_icmp_ge (tgt := 20) X.1 X.2.1 dX8_point_9 (by decide) (fun c3 => ?_) (fun c3 => ?_)
    · have hF := ab_pos c3 hF
      exact w_X8_point_20 X hr  S (lv_sub hl [] rfl) hF
    · have hF := ab_neg c3 hF
      refine lv_iload X.1 X.2.1 dX8_point_12 (lv_at hl 4 rfl) ?_
      obtain ⟨x4, h5, e6, hF⟩ := bnd_out hF
      refine ab_callSi X S (c_X8_isK l D cA sz e6) mi_X8_isK lm_X8_67 lt_yX8_isK (As := [.int p3]) (rest := []) rfl ⟨by decide, by decide⟩ ⟨(by decide), (by decide)⟩ hl.1 rfl (by simp [ab_cat, ab_cI, ab_cJ, ab_cD, ab_cF]) dX8_point_14 (fun H1 locs1 S => ?_)
      refine lv_if_ne (tgt := 22) X.1 X.2.1 dX8_point_17 (by decide) (fun c7 => ?_) (fun c7 => ?_)
      · have hF := ab_pos c7 hF
        refine ab_aload_n X dX8_point_22 rfl (lv_at hl 0 rfl) ?_
        refine ab_getR X S hF fi_8_4 lf_X8_31 dX8_point_23 (fun x8 hF => ?_)
        refine lv_iload_n X.1 X.2.1 dX8_point_26 rfl (lv_at hl 1 rfl) ?_
        refine ab_aldR X S hF rfl (by decide) dX8_point_27 (fun x9 hF => ?_)
        refine ab_astore (lv' := [(7, va_rf x9), (0, va_rf (some this)), (1, .int p0), (2, .long p1), (4, .long p2), (6, .int p3)]) X dX8_point_28 hl (by decide) (by simp [ab_cat, ab_cI, ab_cJ, ab_cD, ab_cF]) (fun ls hl => ?_)
        refine ab_aload X dX8_point_30 (lv_at hl 0 rfl) ?_
        refine ab_ifnonnull (tgt := 39) X dX8_point_32 (by decide) (fun c10 => ?_) (fun c10 => ?_)
        · have hF := ab_pos c10 hF
          refine ab_aload X dX8_point_39 (lv_at hl 0 rfl) ?_
          refine lv_lload_n X.1 X.2.1 dX8_point_41 rfl (lv_at hl 3 rfl) ?_
          refine lv_iload X.1 X.2.1 dX8_point_42 (lv_at hl 5 rfl) ?_
          obtain ⟨x11, h12, e13, hF⟩ := bnd_out hF
          refine ab_callSd X S (c_X8_quotient l D cA sz e13) mi_X8_quotient lm_X8_71 lt_yX8_quotient (As := [.long p1, .int p3]) (rest := [va_rf x9]) rfl ⟨by decide, by decide⟩ ⟨(by decide), (by decide)⟩ hl.1 rfl (by simp [ab_cat, ab_cI, ab_cJ, ab_cD, ab_cF]) dX8_point_44 (fun H1 locs1 S => ?_)
          refine lv_lload X.1 X.2.1 dX8_point_47 (lv_at hl 4 rfl) ?_
          refine lv_iload X.1 X.2.1 dX8_point_49 (lv_at hl 5 rfl) ?_
          obtain ⟨x14, h15, e16, hF⟩ := bnd_out hF
          refine ab_callSd X S (c_X8_quotient l D cA sz e16) mi_X8_quotient lm_X8_71 lt_yX8_quotient (As := [.long p2, .int p3]) (rest := [.double x11, va_rf x9]) rfl ⟨by decide, by decide⟩ ⟨(by decide), (by decide)⟩ hl.1 rfl (by simp [ab_cat, ab_cI, ab_cJ, ab_cD, ab_cF]) dX8_point_51 (fun H1 locs1 S => ?_)
          obtain ⟨a20, e21, hF⟩ := bind_out hF
          obtain ⟨x17, h18, e19, hF⟩ := bnd_out hF
          refine ab_callVi X S e21 (c_X5_add l D cA sz e19) rfl (by decide) mi_X5_add lm_X8_106 li_yX5_add ls_yX5_add (As := [.double x11, .double x14]) (rest := []) rfl ⟨by decide, by decide⟩ ⟨(by decide), (by decide)⟩ hl.1 rfl (by simp [ab_cat, ab_cI, ab_cJ, ab_cD, ab_cF]) dX8_point_54 (fun H1 locs1 S => ?_)
          exact w_X8_point_57 X hr  S (lv_sub hl [] rfl) hF
        · have hF := ab_neg c10 hF
          refine lv_iconst (v := (-1)) X.1 X.2.1 dX8_point_35 (by decide) ?_
          refine lv_goto (tgt := 57) X.1 X.2.1 dX8_point_36 (by decide) ?_
          exact w_X8_point_57 X hr  S (lv_sub hl [] rfl) hF
      · have hF := ab_neg (fun q => q c7) hF
        exact w_X8_point_20 X hr  S (lv_sub hl [] rfl) hF
def f_X8_many_10   (h : Hp) : Option (Int32 × Hp) :=
  some ((-1), h)
set_option maxHeartbeats 4000000 in
set_option maxRecDepth 100000 in
theorem w_X8_many_10 {p : Program} {l : Launch} {e : Env} {s : State} {m : MethodId} {args : Array Value} {below : List Frame} {meth : Method} {c : Code} {D : va_G} {cA : Nat → ClassId} {sz : Nat} {rr : Int32} {hh : Hp}  (X : ab_X p s m args meth c cX8_many 3 RX8 D cA sz) (hr : meth.sig.returnType = (some .int))  {H : Heap} {locs : List Loc} {ls : Array Slot}  {h : Hp} (S : ab_H D cA sz h s H locs) (hl : lv_has ls 3 []) (hF : f_X8_many_10  h = some (rr, hh)) : W p l e (ab_rm 1 0 0) s m args below meth c H locs 0 0 (MQ below (ab_Q D cA sz (some (.int rr)) hh) args s 0 0 (fun q => sz ≤ q)) (F0 m 10 ls []) := by
  unfold f_X8_many_10 at hF
  refine lv_iconst (v := (-1)) X.1 X.2.1 dX8_many_10 (by decide) ?_
  exact ab_iret X S hr hF dX8_many_11
def f_X8_many_61  (u0 : Int32) (h : Hp) : Option (Int32 × Hp) :=
  some (u0, h)
set_option maxHeartbeats 4000000 in
set_option maxRecDepth 100000 in
theorem w_X8_many_61 {p : Program} {l : Launch} {e : Env} {s : State} {m : MethodId} {args : Array Value} {below : List Frame} {meth : Method} {c : Code} {D : va_G} {cA : Nat → ClassId} {sz : Nat} {rr : Int32} {hh : Hp}  (X : ab_X p s m args meth c cX8_many 3 RX8 D cA sz) (hr : meth.sig.returnType = (some .int))  {H : Heap} {locs : List Loc} {ls : Array Slot} {u0 : Int32} {h : Hp} (S : ab_H D cA sz h s H locs) (hl : lv_has ls 3 []) (hF : f_X8_many_61 u0 h = some (rr, hh)) : W p l e (ab_rm 1 0 0) s m args below meth c H locs 0 0 (MQ below (ab_Q D cA sz (some (.int rr)) hh) args s 0 0 (fun q => sz ≤ q)) (F0 m 61 ls [.int u0]) := by
  unfold f_X8_many_61 at hF
  exact ab_iret X S hr hF dX8_many_61
def f_X8_many (this : Nat) (p0 : Int32) (h : Hp) : Option (Int32 × Hp) :=
  if p0 < 0 then
    f_X8_many_10 h
  else
    if p0 ≤ 10 then
      if ¬ p0 = 0 then
        if ¬ p0 = 1 then
          if ¬ p0 = 2 then
            (ab_ck h (some this) (8, 0)).bind fun a9 =>
            bnd (f_X8_lawAt a9 (p0 - 3) h) fun x6 h7 =>
            if ¬ x6 = none then
              (getI h7 x6 1 10).bind fun x12 =>
              f_X8_many_61 x12 h7
            else
              f_X8_many_61 0 h7
          else
            (getI h (some this) 8 7).bind fun x13 =>
            some (x13, h)
        else
          (getI h (some this) 8 5).bind fun x14 =>
          some (x14, h)
      else
        (getI h (some this) 8 3).bind fun x15 =>
        some (x15, h)
    else
      f_X8_many_10 h
theorem mi_X8_many : ab_MI yX8_many cX8_many 3 (some .int) 1 := ⟨lc_yX8_many, lz_RX8, by decide, by decide, by decide +kernel⟩
set_option maxHeartbeats 4000000 in
set_option maxRecDepth 100000 in
theorem c_X8_many (l : Launch) (D : va_G) (cA : Nat → ClassId) (sz : Nat) {this : Nat} {p0 : Int32} {h hh : Hp} {rr : Int32} (hF : f_X8_many this p0 h = some (rr, hh)) : ab_C l D cA sz yX8_many cX8_many 3 (some .int) 1 0 0 [.ref this, .int p0] h (some (.int rr)) hh := by
  refine Met.ofW (cc := cX8_many) (maxL := 3) (ret := (some .int)) (by decide) rfl ?_
  intro p e s m args below meth c s₁ B hml hv
  obtain ⟨rfl, hT, hR⟩ := hv
  have X : ab_X p s m _ meth c cX8_many 3 RX8 D cA sz := (ab_enter B hml hT hR).1
  have S := (ab_enter B hml hT hR).2
  have hr := B.returns
  obtain ⟨ls, hls, hl⟩ := ab_entry m [.ref this, .int p0] 3 (lv := [(0, .ref this), (1, .int p0)]) (by simp [lg_sl, ab_cat, ab_cI, ab_cJ, ab_cD, ab_cF, ab_cA]) (by simp [lv_args, ab_cat, ab_cI, ab_cJ, ab_cD, ab_cF, ab_cA])
  rw [hls]
  have hl : lv_has ls 3 [(0, va_rf (some this)), (1, .int p0)] := hl
  unfold f_X8_many at hF
  show W p l e (ab_rm 1 0 0) s m _ below meth c s.heap [] 0 0 _ _
  refine lv_iload_n X.1 X.2.1 dX8_many_0 rfl (lv_at hl 1 rfl) ?_
  refine lv_if_lt (tgt := 10) X.1 X.2.1 dX8_many_1 (by decide) (fun c1 => ?_) (fun c1 => ?_)
  · have hF := ab_pos c1 hF
    exact w_X8_many_10 X hr  S (lv_sub hl [] rfl) hF
  · have hF := ab_neg c1 hF
    refine lv_iload_n X.1 X.2.1 dX8_many_4 rfl (lv_at hl 1 rfl) ?_
    refine lv_bipush (v := 10) X.1 X.2.1 dX8_many_5 (by decide) ?_
    refine lv_icmp_le (tgt := 12) X.1 X.2.1 dX8_many_7 (by decide) (fun c2 => ?_) (fun c2 => ?_)
    · have hF := ab_pos c2 hF
      refine lv_iload_n X.1 X.2.1 dX8_many_12 rfl (lv_at hl 1 rfl) ?_
      refine lv_if_ne (tgt := 21) X.1 X.2.1 dX8_many_13 (by decide) (fun c3 => ?_) (fun c3 => ?_)
      · have hF := ab_pos c3 hF
        refine lv_iload_n X.1 X.2.1 dX8_many_21 rfl (lv_at hl 1 rfl) ?_
        refine lv_iconst (v := 1) X.1 X.2.1 dX8_many_22 (by decide) ?_
        refine lv_icmp_ne (tgt := 31) X.1 X.2.1 dX8_many_23 (by decide) (fun c4 => ?_) (fun c4 => ?_)
        · have hF := ab_pos c4 hF
          refine lv_iload_n X.1 X.2.1 dX8_many_31 rfl (lv_at hl 1 rfl) ?_
          refine lv_iconst (v := 2) X.1 X.2.1 dX8_many_32 (by decide) ?_
          refine lv_icmp_ne (tgt := 41) X.1 X.2.1 dX8_many_33 (by decide) (fun c5 => ?_) (fun c5 => ?_)
          · have hF := ab_pos c5 hF
            refine ab_aload_n X dX8_many_41 rfl (lv_at hl 0 rfl) ?_
            refine lv_iload_n X.1 X.2.1 dX8_many_42 rfl (lv_at hl 1 rfl) ?_
            refine lv_iconst (v := 3) X.1 X.2.1 dX8_many_43 (by decide) ?_
            refine lv_isub X.1 X.2.1 dX8_many_44 ?_
            obtain ⟨a9, e10, hF⟩ := bind_out hF
            obtain ⟨x6, h7, e8, hF⟩ := bnd_out hF
            refine ab_callVa X S e10 (c_X8_lawAt l D cA sz e8) rfl (by decide) mi_X8_lawAt lm_X8_63 li_yX8_lawAt ls_yX8_lawAt (As := [.int (p0 - 3)]) (rest := []) rfl ⟨by decide, by decide⟩ ⟨(by decide), (by decide)⟩ hl.1 rfl (by simp [ab_cat, ab_cI, ab_cJ, ab_cD, ab_cF]) dX8_many_45 (fun H1 locs1 S => ?_)
            refine ab_astore_n (i := 2) (lv' := [(2, va_rf x6), (0, va_rf (some this)), (1, .int p0)]) X dX8_many_48 rfl hl (by decide) (by simp [ab_cat, ab_cI, ab_cJ, ab_cD, ab_cF]) (fun ls hl => ?_)
            refine ab_aload_n X dX8_many_49 rfl (lv_at hl 0 rfl) ?_
            refine ab_ifnonnull (tgt := 57) X dX8_many_50 (by decide) (fun c11 => ?_) (fun c11 => ?_)
            · have hF := ab_pos c11 hF
              refine ab_aload_n X dX8_many_57 rfl (lv_at hl 0 rfl) ?_
              refine ab_getI X S hF fi_1_10 lf_X8_109 dX8_many_58 (fun x12 hF => ?_)
              exact w_X8_many_61 X hr  S (lv_sub hl [] rfl) hF
            · have hF := ab_neg c11 hF
              refine lv_iconst (v := 0) X.1 X.2.1 dX8_many_53 (by decide) ?_
              refine lv_goto (tgt := 61) X.1 X.2.1 dX8_many_54 (by decide) ?_
              exact w_X8_many_61 X hr  S (lv_sub hl [] rfl) hF
          · have hF := ab_neg (fun q => q c5) hF
            refine ab_aload_n X dX8_many_36 rfl (lv_at hl 0 rfl) ?_
            refine ab_getI X S hF fi_8_7 lf_X8_89 dX8_many_37 (fun x13 hF => ?_)
            exact ab_iret X S hr hF dX8_many_40
        · have hF := ab_neg (fun q => q c4) hF
          refine ab_aload_n X dX8_many_26 rfl (lv_at hl 0 rfl) ?_
          refine ab_getI X S hF fi_8_5 lf_X8_100 dX8_many_27 (fun x14 hF => ?_)
          exact ab_iret X S hr hF dX8_many_30
      · have hF := ab_neg (fun q => q c3) hF
        refine ab_aload_n X dX8_many_16 rfl (lv_at hl 0 rfl) ?_
        refine ab_getI X S hF fi_8_3 lf_X8_56 dX8_many_17 (fun x15 hF => ?_)
        exact ab_iret X S hr hF dX8_many_20
    · have hF := ab_neg c2 hF
      exact w_X8_many_10 X hr  S (lv_sub hl [] rfl) hF
