def f_X0_init (this : Nat) (h : Hp) : Option (Unit × Hp) :=
  bnd (newa h 11 4) fun x2 h1 =>
  (putR h1 (some this) 0 1 x2).bind fun h3 =>
  bnd (newa h3 11 4) fun x5 h4 =>
  (putR h4 (some this) 0 2 x5).bind fun h6 =>
  bnd (newa h6 11 4) fun x8 h7 =>
  (putR h7 (some this) 0 3 x8).bind fun h9 =>
  bnd (newa h9 11 4) fun x11 h10 =>
  (putR h10 (some this) 0 4 x11).bind fun h12 =>
  bnd (newa h12 10 4) fun x14 h13 =>
  (putR h13 (some this) 0 5 x14).bind fun h15 =>
  bnd (newa h15 11 64) fun x17 h16 =>
  (putR h16 (some this) 0 7 x17).bind fun h18 =>
  bnd (newa h18 10 64) fun x20 h19 =>
  (putR h19 (some this) 0 8 x20).bind fun h21 =>
  some ((), h21)
theorem mi_X0_init : ab_MI yX0_init cX0_init 1 none 0 := ⟨lc_yX0_init, lz_RX0, by decide, by decide, by decide +kernel⟩
set_option maxHeartbeats 4000000 in
set_option maxRecDepth 100000 in
theorem c_X0_init (l : Launch) (D : va_G) (cA : Nat → ClassId) (sz : Nat) {this : Nat} {h hh : Hp}  (hF : f_X0_init this h = some ((), hh)) : ab_C l D cA sz yX0_init cX0_init 1 none 1 7 7000 [.ref this] h none hh := by
  refine Met.ofW (cc := cX0_init) (maxL := 1) (ret := none) (by decide) rfl ?_
  intro p e s m args below meth c s₁ B hml hv
  obtain ⟨rfl, hT, hR⟩ := hv
  have X : ab_X p s m _ meth c cX0_init 1 RX0 D cA sz := (ab_enter B hml hT hR).1
  have S := (ab_enter B hml hT hR).2
  have hr := B.returns
  obtain ⟨ls, hls, hl⟩ := ab_entry m [.ref this] 1 (lv := [(0, .ref this)]) (by simp [lg_sl, ab_cat, ab_cI, ab_cJ, ab_cD, ab_cF, ab_cA]) (by simp [lv_args, ab_cat, ab_cI, ab_cJ, ab_cD, ab_cF, ab_cA])
  rw [hls]
  have hl : lv_has ls 1 [(0, va_rf (some this))] := hl
  have hin : meth.name = "<init>" := (name_of_methodNamed B.named B.method).1
  unfold f_X0_init at hF
  show W p l e (ab_rm 1 7 7000) s m _ below meth c s.heap [] 0 0 _ _
  refine ab_aload_n X dX0_init_0 rfl (lv_at hl 0 rfl) ?_
  refine ab_objInit X lm_X0_3 hl.1 (by decide) (by simp [ab_cat, ab_cI, ab_cJ, ab_cD, ab_cF]) dX0_init_1 ?_
  refine ab_aload_n X dX0_init_4 rfl (lv_at hl 0 rfl) ?_
  refine lv_iconst (v := 4) X.1 X.2.1 dX0_init_5 (by decide) ?_
  refine ab_newI X S hF la_int (by decide) (by decide) dX0_init_6 (fun x2 h1 H1 hF S => ?_)
  refine ab_putR X S hF fi_0_1 ci_0 (Or.inr ⟨rfl, hin, rfl⟩) (fun q => by cases q <;> rfl) (fun q => by cases q <;> rfl) lf_X0_9 dX0_init_8 (fun h3 H1 locs1 hF S => ?_)
  refine ab_aload_n X dX0_init_11 rfl (lv_at hl 0 rfl) ?_
  refine lv_iconst (v := 4) X.1 X.2.1 dX0_init_12 (by decide) ?_
  refine ab_newI X S hF la_int (by decide) (by decide) dX0_init_13 (fun x5 h4 H1 hF S => ?_)
  refine ab_putR X S hF fi_0_2 ci_0 (Or.inr ⟨rfl, hin, rfl⟩) (fun q => by cases q <;> rfl) (fun q => by cases q <;> rfl) lf_X0_15 dX0_init_15 (fun h6 H1 locs1 hF S => ?_)
  refine ab_aload_n X dX0_init_18 rfl (lv_at hl 0 rfl) ?_
  refine lv_iconst (v := 4) X.1 X.2.1 dX0_init_19 (by decide) ?_
  refine ab_newI X S hF la_int (by decide) (by decide) dX0_init_20 (fun x8 h7 H1 hF S => ?_)
  refine ab_putR X S hF fi_0_3 ci_0 (Or.inr ⟨rfl, hin, rfl⟩) (fun q => by cases q <;> rfl) (fun q => by cases q <;> rfl) lf_X0_18 dX0_init_22 (fun h9 H1 locs1 hF S => ?_)
  refine ab_aload_n X dX0_init_25 rfl (lv_at hl 0 rfl) ?_
  refine lv_iconst (v := 4) X.1 X.2.1 dX0_init_26 (by decide) ?_
  refine ab_newI X S hF la_int (by decide) (by decide) dX0_init_27 (fun x11 h10 H1 hF S => ?_)
  refine ab_putR X S hF fi_0_4 ci_0 (Or.inr ⟨rfl, hin, rfl⟩) (fun q => by cases q <;> rfl) (fun q => by cases q <;> rfl) lf_X0_21 dX0_init_29 (fun h12 H1 locs1 hF S => ?_)
  refine ab_aload_n X dX0_init_32 rfl (lv_at hl 0 rfl) ?_
  refine lv_iconst (v := 4) X.1 X.2.1 dX0_init_33 (by decide) ?_
  refine ab_newD X S hF la_double (by decide) (by decide) dX0_init_34 (fun x14 h13 H1 hF S => ?_)
  refine ab_putR X S hF fi_0_5 ci_0 (Or.inr ⟨rfl, hin, rfl⟩) (fun q => by cases q <;> rfl) (fun q => by cases q <;> rfl) lf_X0_24 dX0_init_36 (fun h15 H1 locs1 hF S => ?_)
  refine ab_aload_n X dX0_init_39 rfl (lv_at hl 0 rfl) ?_
  refine lv_bipush (v := 64) X.1 X.2.1 dX0_init_40 (by decide) ?_
  refine ab_newI X S hF la_int (by decide) (by decide) dX0_init_42 (fun x17 h16 H1 hF S => ?_)
  refine ab_putR X S hF fi_0_7 ci_0 (Or.inr ⟨rfl, hin, rfl⟩) (fun q => by cases q <;> rfl) (fun q => by cases q <;> rfl) lf_X0_28 dX0_init_44 (fun h18 H1 locs1 hF S => ?_)
  refine ab_aload_n X dX0_init_47 rfl (lv_at hl 0 rfl) ?_
  refine lv_bipush (v := 64) X.1 X.2.1 dX0_init_48 (by decide) ?_
  refine ab_newD X S hF la_double (by decide) (by decide) dX0_init_50 (fun x20 h19 H1 hF S => ?_)
  refine ab_putR X S hF fi_0_8 ci_0 (Or.inr ⟨rfl, hin, rfl⟩) (fun q => by cases q <;> rfl) (fun q => by cases q <;> rfl) lf_X0_31 dX0_init_52 (fun h21 H1 locs1 hF S => ?_)
  refine W.widen (k := 7) (n := 7000) (Nat.le_of_ble_eq_true rfl) (Nat.le_of_ble_eq_true rfl) ?_
  exact ab_vret X S hr hF dX0_init_55
def f_X0_copy (this : Nat) (p0 : Option Nat) (h : Hp) : Option (Unit × Hp) :=
  (getI h p0 0 0).bind fun x1 =>
  (putI h (some this) 0 0 x1).bind fun h2 =>
  (getR h2 p0 0 1).bind fun x3 =>
  (getR h2 (some this) 0 1).bind fun x4 =>
  (copI h2 x3 0 x4 0 4).bind fun h5 =>
  (getR h5 p0 0 2).bind fun x6 =>
  (getR h5 (some this) 0 2).bind fun x7 =>
  (copI h5 x6 0 x7 0 4).bind fun h8 =>
  (getR h8 p0 0 3).bind fun x9 =>
  (getR h8 (some this) 0 3).bind fun x10 =>
  (copI h8 x9 0 x10 0 4).bind fun h11 =>
  (getR h11 p0 0 4).bind fun x12 =>
  (getR h11 (some this) 0 4).bind fun x13 =>
  (copI h11 x12 0 x13 0 4).bind fun h14 =>
  (getI h14 p0 0 6).bind fun x15 =>
  (putI h14 (some this) 0 6 x15).bind fun h16 =>
  (getR h16 p0 0 7).bind fun x17 =>
  (getR h16 (some this) 0 7).bind fun x18 =>
  (copI h16 x17 0 x18 0 64).bind fun h19 =>
  (getR h19 p0 0 8).bind fun x20 =>
  (getR h19 (some this) 0 8).bind fun x21 =>
  (copD h19 x20 0 x21 0 64).bind fun h22 =>
  some ((), h22)
theorem mi_X0_copy : ab_MI yX0_copy cX0_copy 2 none 1 := ⟨lc_yX0_copy, lz_RX0, by decide, by decide, by decide +kernel⟩
set_option maxHeartbeats 4000000 in
set_option maxRecDepth 100000 in
theorem c_X0_copy (l : Launch) (D : va_G) (cA : Nat → ClassId) (sz : Nat) {this : Nat} {p0 : Option Nat} {h hh : Hp}  (hF : f_X0_copy this p0 h = some ((), hh)) : ab_C l D cA sz yX0_copy cX0_copy 2 none 1 0 0 [.ref this, va_rf p0] h none hh := by
  refine Met.ofW (cc := cX0_copy) (maxL := 2) (ret := none) (by decide) rfl ?_
  intro p e s m args below meth c s₁ B hml hv
  obtain ⟨rfl, hT, hR⟩ := hv
  have X : ab_X p s m _ meth c cX0_copy 2 RX0 D cA sz := (ab_enter B hml hT hR).1
  have S := (ab_enter B hml hT hR).2
  have hr := B.returns
  obtain ⟨ls, hls, hl⟩ := ab_entry m [.ref this, va_rf p0] 2 (lv := [(0, .ref this), (1, va_rf p0)]) (by simp [lg_sl, ab_cat, ab_cI, ab_cJ, ab_cD, ab_cF, ab_cA]) (by simp [lv_args, ab_cat, ab_cI, ab_cJ, ab_cD, ab_cF, ab_cA])
  rw [hls]
  have hl : lv_has ls 2 [(0, va_rf (some this)), (1, va_rf p0)] := hl
  unfold f_X0_copy at hF
  show W p l e (ab_rm 1 0 0) s m _ below meth c s.heap [] 0 0 _ _
  refine ab_aload_n X dX0_copy_0 rfl (lv_at hl 0 rfl) ?_
  refine ab_aload_n X dX0_copy_1 rfl (lv_at hl 1 rfl) ?_
  refine ab_getI X S hF fi_0_0 lf_X0_34 dX0_copy_2 (fun x1 hF => ?_)
  refine ab_putI X S hF fi_0_0 ci_0 (Or.inl rfl) rfl lf_X0_34 dX0_copy_5 (fun h2 H1 locs1 hF S => ?_)
  refine ab_aload_n X dX0_copy_8 rfl (lv_at hl 1 rfl) ?_
  refine ab_getR X S hF fi_0_1 lf_X0_9 dX0_copy_9 (fun x3 hF => ?_)
  refine lv_iconst (v := 0) X.1 X.2.1 dX0_copy_12 (by decide) ?_
  refine ab_aload_n X dX0_copy_13 rfl (lv_at hl 0 rfl) ?_
  refine ab_getR X S hF fi_0_1 lf_X0_9 dX0_copy_14 (fun x4 hF => ?_)
  refine lv_iconst (v := 0) X.1 X.2.1 dX0_copy_17 (by decide) ?_
  refine lv_iconst (v := 4) X.1 X.2.1 dX0_copy_18 (by decide) ?_
  refine ab_copI X S hF lm_X0_38 hl.1 (by decide) (by decide +kernel) dX0_copy_19 (fun h5 H1 locs1 hF S => ?_)
  refine ab_aload_n X dX0_copy_22 rfl (lv_at hl 1 rfl) ?_
  refine ab_getR X S hF fi_0_2 lf_X0_15 dX0_copy_23 (fun x6 hF => ?_)
  refine lv_iconst (v := 0) X.1 X.2.1 dX0_copy_26 (by decide) ?_
  refine ab_aload_n X dX0_copy_27 rfl (lv_at hl 0 rfl) ?_
  refine ab_getR X S hF fi_0_2 lf_X0_15 dX0_copy_28 (fun x7 hF => ?_)
  refine lv_iconst (v := 0) X.1 X.2.1 dX0_copy_31 (by decide) ?_
  refine lv_iconst (v := 4) X.1 X.2.1 dX0_copy_32 (by decide) ?_
  refine ab_copI X S hF lm_X0_38 hl.1 (by decide) (by decide +kernel) dX0_copy_33 (fun h8 H1 locs1 hF S => ?_)
  refine ab_aload_n X dX0_copy_36 rfl (lv_at hl 1 rfl) ?_
  refine ab_getR X S hF fi_0_3 lf_X0_18 dX0_copy_37 (fun x9 hF => ?_)
  refine lv_iconst (v := 0) X.1 X.2.1 dX0_copy_40 (by decide) ?_
  refine ab_aload_n X dX0_copy_41 rfl (lv_at hl 0 rfl) ?_
  refine ab_getR X S hF fi_0_3 lf_X0_18 dX0_copy_42 (fun x10 hF => ?_)
  refine lv_iconst (v := 0) X.1 X.2.1 dX0_copy_45 (by decide) ?_
  refine lv_iconst (v := 4) X.1 X.2.1 dX0_copy_46 (by decide) ?_
  refine ab_copI X S hF lm_X0_38 hl.1 (by decide) (by decide +kernel) dX0_copy_47 (fun h11 H1 locs1 hF S => ?_)
  refine ab_aload_n X dX0_copy_50 rfl (lv_at hl 1 rfl) ?_
  refine ab_getR X S hF fi_0_4 lf_X0_21 dX0_copy_51 (fun x12 hF => ?_)
  refine lv_iconst (v := 0) X.1 X.2.1 dX0_copy_54 (by decide) ?_
  refine ab_aload_n X dX0_copy_55 rfl (lv_at hl 0 rfl) ?_
  refine ab_getR X S hF fi_0_4 lf_X0_21 dX0_copy_56 (fun x13 hF => ?_)
  refine lv_iconst (v := 0) X.1 X.2.1 dX0_copy_59 (by decide) ?_
  refine lv_iconst (v := 4) X.1 X.2.1 dX0_copy_60 (by decide) ?_
  refine ab_copI X S hF lm_X0_38 hl.1 (by decide) (by decide +kernel) dX0_copy_61 (fun h14 H1 locs1 hF S => ?_)
  refine ab_aload_n X dX0_copy_64 rfl (lv_at hl 0 rfl) ?_
  refine ab_aload_n X dX0_copy_65 rfl (lv_at hl 1 rfl) ?_
  refine ab_getI X S hF fi_0_6 lf_X0_44 dX0_copy_66 (fun x15 hF => ?_)
  refine ab_putI X S hF fi_0_6 ci_0 (Or.inl rfl) rfl lf_X0_44 dX0_copy_69 (fun h16 H1 locs1 hF S => ?_)
  refine ab_aload_n X dX0_copy_72 rfl (lv_at hl 1 rfl) ?_
  refine ab_getR X S hF fi_0_7 lf_X0_28 dX0_copy_73 (fun x17 hF => ?_)
  refine lv_iconst (v := 0) X.1 X.2.1 dX0_copy_76 (by decide) ?_
  refine ab_aload_n X dX0_copy_77 rfl (lv_at hl 0 rfl) ?_
  refine ab_getR X S hF fi_0_7 lf_X0_28 dX0_copy_78 (fun x18 hF => ?_)
  refine lv_iconst (v := 0) X.1 X.2.1 dX0_copy_81 (by decide) ?_
  refine lv_bipush (v := 64) X.1 X.2.1 dX0_copy_82 (by decide) ?_
  refine ab_copI X S hF lm_X0_38 hl.1 (by decide) (by decide +kernel) dX0_copy_84 (fun h19 H1 locs1 hF S => ?_)
  refine ab_aload_n X dX0_copy_87 rfl (lv_at hl 1 rfl) ?_
  refine ab_getR X S hF fi_0_8 lf_X0_31 dX0_copy_88 (fun x20 hF => ?_)
  refine lv_iconst (v := 0) X.1 X.2.1 dX0_copy_91 (by decide) ?_
  refine ab_aload_n X dX0_copy_92 rfl (lv_at hl 0 rfl) ?_
  refine ab_getR X S hF fi_0_8 lf_X0_31 dX0_copy_93 (fun x21 hF => ?_)
  refine lv_iconst (v := 0) X.1 X.2.1 dX0_copy_96 (by decide) ?_
  refine lv_bipush (v := 64) X.1 X.2.1 dX0_copy_97 (by decide) ?_
  refine ab_copD X S hF lm_X0_38 hl.1 (by decide) (by decide +kernel) dX0_copy_99 (fun h22 H1 locs1 hF S => ?_)
  exact ab_vret X S hr hF dX0_copy_102
def f_X0_add (this : Nat) (p0 : Int32) (p1 : Int32) (p2 : Int32) (p3 : Int32) (h : Hp) : Option (Int32 × Hp) :=
  (getI h (some this) 0 0).bind fun x1 =>
  if x1 < 4 then
    (getR h (some this) 0 1).bind fun x3 =>
    (getI h (some this) 0 0).bind fun x4 =>
    (astI h x3 x4 p0).bind fun h5 =>
    (getR h5 (some this) 0 2).bind fun x6 =>
    (getI h5 (some this) 0 0).bind fun x7 =>
    (astI h5 x6 x7 p1).bind fun h8 =>
    (getR h8 (some this) 0 3).bind fun x9 =>
    (getI h8 (some this) 0 0).bind fun x10 =>
    (astI h8 x9 x10 p2).bind fun h11 =>
    (getR h11 (some this) 0 4).bind fun x12 =>
    (getI h11 (some this) 0 0).bind fun x13 =>
    (astI h11 x12 x13 p3).bind fun h14 =>
    (getI h14 (some this) 0 0).bind fun x15 =>
    (putI h14 (some this) 0 0 (x15 + 1)).bind fun h16 =>
    (getI h16 (some this) 0 0).bind fun x17 =>
    some (x17 - 1, h16)
  else
    some ((-3), h)
theorem mi_X0_add : ab_MI yX0_add cX0_add 5 (some .int) 4 := ⟨lc_yX0_add, lz_RX0, by decide, by decide, by decide +kernel⟩
set_option maxHeartbeats 4000000 in
set_option maxRecDepth 100000 in
theorem c_X0_add (l : Launch) (D : va_G) (cA : Nat → ClassId) (sz : Nat) {this : Nat} {p0 : Int32} {p1 : Int32} {p2 : Int32} {p3 : Int32} {h hh : Hp} {rr : Int32} (hF : f_X0_add this p0 p1 p2 p3 h = some (rr, hh)) : ab_C l D cA sz yX0_add cX0_add 5 (some .int) 0 0 0 [.ref this, .int p0, .int p1, .int p2, .int p3] h (some (.int rr)) hh := by
  refine Met.ofW (cc := cX0_add) (maxL := 5) (ret := (some .int)) (by decide) rfl ?_
  intro p e s m args below meth c s₁ B hml hv
  obtain ⟨rfl, hT, hR⟩ := hv
  have X : ab_X p s m _ meth c cX0_add 5 RX0 D cA sz := (ab_enter B hml hT hR).1
  have S := (ab_enter B hml hT hR).2
  have hr := B.returns
  obtain ⟨ls, hls, hl⟩ := ab_entry m [.ref this, .int p0, .int p1, .int p2, .int p3] 5 (lv := [(0, .ref this), (1, .int p0), (2, .int p1), (3, .int p2), (4, .int p3)]) (by simp [lg_sl, ab_cat, ab_cI, ab_cJ, ab_cD, ab_cF, ab_cA]) (by simp [lv_args, ab_cat, ab_cI, ab_cJ, ab_cD, ab_cF, ab_cA])
  rw [hls]
  have hl : lv_has ls 5 [(0, va_rf (some this)), (1, .int p0), (2, .int p1), (3, .int p2), (4, .int p3)] := hl
  unfold f_X0_add at hF
  show W p l e (ab_rm 0 0 0) s m _ below meth c s.heap [] 0 0 _ _
  refine ab_aload_n X dX0_add_0 rfl (lv_at hl 0 rfl) ?_
  refine ab_getI X S hF fi_0_0 lf_X0_34 dX0_add_1 (fun x1 hF => ?_)
  refine lv_iconst (v := 4) X.1 X.2.1 dX0_add_4 (by decide) ?_
  refine lv_icmp_lt (tgt := 11) X.1 X.2.1 dX0_add_5 (by decide) (fun c2 => ?_) (fun c2 => ?_)
  · have hF := ab_pos c2 hF
    refine ab_aload_n X dX0_add_11 rfl (lv_at hl 0 rfl) ?_
    refine ab_getR X S hF fi_0_1 lf_X0_9 dX0_add_12 (fun x3 hF => ?_)
    refine ab_aload_n X dX0_add_15 rfl (lv_at hl 0 rfl) ?_
    refine ab_getI X S hF fi_0_0 lf_X0_34 dX0_add_16 (fun x4 hF => ?_)
    refine lv_iload_n X.1 X.2.1 dX0_add_19 rfl (lv_at hl 1 rfl) ?_
    refine ab_astI X S hF dX0_add_20 (fun h5 H1 locs1 hF S => ?_)
    refine ab_aload_n X dX0_add_21 rfl (lv_at hl 0 rfl) ?_
    refine ab_getR X S hF fi_0_2 lf_X0_15 dX0_add_22 (fun x6 hF => ?_)
    refine ab_aload_n X dX0_add_25 rfl (lv_at hl 0 rfl) ?_
    refine ab_getI X S hF fi_0_0 lf_X0_34 dX0_add_26 (fun x7 hF => ?_)
    refine lv_iload_n X.1 X.2.1 dX0_add_29 rfl (lv_at hl 2 rfl) ?_
    refine ab_astI X S hF dX0_add_30 (fun h8 H1 locs1 hF S => ?_)
    refine ab_aload_n X dX0_add_31 rfl (lv_at hl 0 rfl) ?_
    refine ab_getR X S hF fi_0_3 lf_X0_18 dX0_add_32 (fun x9 hF => ?_)
    refine ab_aload_n X dX0_add_35 rfl (lv_at hl 0 rfl) ?_
    refine ab_getI X S hF fi_0_0 lf_X0_34 dX0_add_36 (fun x10 hF => ?_)
    refine lv_iload_n X.1 X.2.1 dX0_add_39 rfl (lv_at hl 3 rfl) ?_
    refine ab_astI X S hF dX0_add_40 (fun h11 H1 locs1 hF S => ?_)
    refine ab_aload_n X dX0_add_41 rfl (lv_at hl 0 rfl) ?_
    refine ab_getR X S hF fi_0_4 lf_X0_21 dX0_add_42 (fun x12 hF => ?_)
    refine ab_aload_n X dX0_add_45 rfl (lv_at hl 0 rfl) ?_
    refine ab_getI X S hF fi_0_0 lf_X0_34 dX0_add_46 (fun x13 hF => ?_)
    refine lv_iload X.1 X.2.1 dX0_add_49 (lv_at hl 4 rfl) ?_
    refine ab_astI X S hF dX0_add_51 (fun h14 H1 locs1 hF S => ?_)
    refine ab_aload_n X dX0_add_52 rfl (lv_at hl 0 rfl) ?_
    refine lv_dup X.1 X.2.1 dX0_add_53 (by simp [ab_cat, ab_cI, ab_cJ, ab_cD, ab_cF]) ?_
    refine ab_getI X S hF fi_0_0 lf_X0_34 dX0_add_54 (fun x15 hF => ?_)
    refine lv_iconst (v := 1) X.1 X.2.1 dX0_add_57 (by decide) ?_
    refine lv_iadd X.1 X.2.1 dX0_add_58 ?_
    refine ab_putI X S hF fi_0_0 ci_0 (Or.inl rfl) rfl lf_X0_34 dX0_add_59 (fun h16 H1 locs1 hF S => ?_)
    refine ab_aload_n X dX0_add_62 rfl (lv_at hl 0 rfl) ?_
    refine ab_getI X S hF fi_0_0 lf_X0_34 dX0_add_63 (fun x17 hF => ?_)
    refine lv_iconst (v := 1) X.1 X.2.1 dX0_add_66 (by decide) ?_
    refine lv_isub X.1 X.2.1 dX0_add_67 ?_
    exact ab_iret X S hr hF dX0_add_68
  · have hF := ab_neg c2 hF
    refine lv_bipush (v := (-3)) X.1 X.2.1 dX0_add_8 (by decide) ?_
    exact ab_iret X S hr hF dX0_add_10
def f_X0_hasFired_23  (u0 : Int32) (h : Hp) : Option (Int32 × Hp) :=
  if u0 = 0 ∨ u0 = 1 then some (u0, h) else none
set_option maxHeartbeats 4000000 in
set_option maxRecDepth 100000 in
theorem w_X0_hasFired_23 {p : Program} {l : Launch} {e : Env} {s : State} {m : MethodId} {args : Array Value} {below : List Frame} {meth : Method} {c : Code} {D : va_G} {cA : Nat → ClassId} {sz : Nat} {rr : Int32} {hh : Hp}  (X : ab_X p s m args meth c cX0_hasFired 2 RX0 D cA sz) (hr : meth.sig.returnType = (some .boolean))  {H : Heap} {locs : List Loc} {ls : Array Slot} {u0 : Int32} {h : Hp} (S : ab_H D cA sz h s H locs) (hl : lv_has ls 2 []) (hF : f_X0_hasFired_23 u0 h = some (rr, hh)) : W p l e (ab_rm 0 0 0) s m args below meth c H locs 0 0 (MQ below (ab_Q D cA sz (some (.int rr)) hh) args s 0 0 (fun q => sz ≤ q)) (F0 m 23 ls [.int u0]) := by
  unfold f_X0_hasFired_23 at hF
  exact ab_zret X S hr hF dX0_hasFired_23
def f_X0_hasFired_22   (h : Hp) : Option (Int32 × Hp) :=
  f_X0_hasFired_23 0 h
set_option maxHeartbeats 4000000 in
set_option maxRecDepth 100000 in
theorem w_X0_hasFired_22 {p : Program} {l : Launch} {e : Env} {s : State} {m : MethodId} {args : Array Value} {below : List Frame} {meth : Method} {c : Code} {D : va_G} {cA : Nat → ClassId} {sz : Nat} {rr : Int32} {hh : Hp}  (X : ab_X p s m args meth c cX0_hasFired 2 RX0 D cA sz) (hr : meth.sig.returnType = (some .boolean))  {H : Heap} {locs : List Loc} {ls : Array Slot}  {h : Hp} (S : ab_H D cA sz h s H locs) (hl : lv_has ls 2 []) (hF : f_X0_hasFired_22  h = some (rr, hh)) : W p l e (ab_rm 0 0 0) s m args below meth c H locs 0 0 (MQ below (ab_Q D cA sz (some (.int rr)) hh) args s 0 0 (fun q => sz ≤ q)) (F0 m 22 ls []) := by
  unfold f_X0_hasFired_22 at hF
  refine lv_iconst (v := 0) X.1 X.2.1 dX0_hasFired_22 (by decide) ?_
  exact w_X0_hasFired_23 X hr  S (lv_sub hl [] rfl) hF
def f_X0_hasFired (this : Nat) (p0 : Int32) (h : Hp) : Option (Int32 × Hp) :=
  if p0 < 0 then
    f_X0_hasFired_22 h
  else
    (getI h (some this) 0 6).bind fun x2 =>
    if x2 ≤ p0 then
      f_X0_hasFired_22 h
    else
      if 64 ≤ p0 then
        f_X0_hasFired_22 h
      else
        f_X0_hasFired_23 1 h
theorem mi_X0_hasFired : ab_MI yX0_hasFired cX0_hasFired 2 (some .boolean) 1 := ⟨lc_yX0_hasFired, lz_RX0, by decide, by decide, by decide +kernel⟩
set_option maxHeartbeats 4000000 in
set_option maxRecDepth 100000 in
theorem c_X0_hasFired (l : Launch) (D : va_G) (cA : Nat → ClassId) (sz : Nat) {this : Nat} {p0 : Int32} {h hh : Hp} {rr : Int32} (hF : f_X0_hasFired this p0 h = some (rr, hh)) : ab_C l D cA sz yX0_hasFired cX0_hasFired 2 (some .boolean) 0 0 0 [.ref this, .int p0] h (some (.int rr)) hh := by
  refine Met.ofW (cc := cX0_hasFired) (maxL := 2) (ret := (some .boolean)) (by decide) rfl ?_
  intro p e s m args below meth c s₁ B hml hv
  obtain ⟨rfl, hT, hR⟩ := hv
  have X : ab_X p s m _ meth c cX0_hasFired 2 RX0 D cA sz := (ab_enter B hml hT hR).1
  have S := (ab_enter B hml hT hR).2
  have hr := B.returns
  obtain ⟨ls, hls, hl⟩ := ab_entry m [.ref this, .int p0] 2 (lv := [(0, .ref this), (1, .int p0)]) (by simp [lg_sl, ab_cat, ab_cI, ab_cJ, ab_cD, ab_cF, ab_cA]) (by simp [lv_args, ab_cat, ab_cI, ab_cJ, ab_cD, ab_cF, ab_cA])
  rw [hls]
  have hl : lv_has ls 2 [(0, va_rf (some this)), (1, .int p0)] := hl
  unfold f_X0_hasFired at hF
  show W p l e (ab_rm 0 0 0) s m _ below meth c s.heap [] 0 0 _ _
  refine lv_iload_n X.1 X.2.1 dX0_hasFired_0 rfl (lv_at hl 1 rfl) ?_
  refine lv_if_lt (tgt := 22) X.1 X.2.1 dX0_hasFired_1 (by decide) (fun c1 => ?_) (fun c1 => ?_)
  · have hF := ab_pos c1 hF
    exact w_X0_hasFired_22 X hr  S (lv_sub hl [] rfl) hF
  · have hF := ab_neg c1 hF
    refine lv_iload_n X.1 X.2.1 dX0_hasFired_4 rfl (lv_at hl 1 rfl) ?_
    refine ab_aload_n X dX0_hasFired_5 rfl (lv_at hl 0 rfl) ?_
    refine ab_getI X S hF fi_0_6 lf_X0_44 dX0_hasFired_6 (fun x2 hF => ?_)
    refine lv_icmp_ge (tgt := 22) X.1 X.2.1 dX0_hasFired_9 (by decide) (fun c3 => ?_) (fun c3 => ?_)
    · have hF := ab_pos c3 hF
      exact w_X0_hasFired_22 X hr  S (lv_sub hl [] rfl) hF
    · have hF := ab_neg c3 hF
      refine lv_iload_n X.1 X.2.1 dX0_hasFired_12 rfl (lv_at hl 1 rfl) ?_
      refine lv_bipush (v := 64) X.1 X.2.1 dX0_hasFired_13 (by decide) ?_
      refine lv_icmp_ge (tgt := 22) X.1 X.2.1 dX0_hasFired_15 (by decide) (fun c4 => ?_) (fun c4 => ?_)
      · have hF := ab_pos c4 hF
        exact w_X0_hasFired_22 X hr  S (lv_sub hl [] rfl) hF
      · have hF := ab_neg c4 hF
        refine lv_iconst (v := 1) X.1 X.2.1 dX0_hasFired_18 (by decide) ?_
        refine lv_goto (tgt := 23) X.1 X.2.1 dX0_hasFired_19 (by decide) ?_
        exact w_X0_hasFired_23 X hr  S (lv_sub hl [] rfl) hF
def f_X0_fire_38  (v0 : Option Nat) (h : Hp) : Option (Unit × Hp) :=
  (getI h v0 0 6).bind fun x1 =>
  (putI h v0 0 6 (x1 + 1)).bind fun h2 =>
  some ((), h2)
set_option maxHeartbeats 4000000 in
set_option maxRecDepth 100000 in
theorem w_X0_fire_38 {p : Program} {l : Launch} {e : Env} {s : State} {m : MethodId} {args : Array Value} {below : List Frame} {meth : Method} {c : Code} {D : va_G} {cA : Nat → ClassId} {sz : Nat}  {hh : Hp}  (X : ab_X p s m args meth c cX0_fire 4 RX0 D cA sz) (hr : meth.sig.returnType = none)  {H : Heap} {locs : List Loc} {ls : Array Slot} {v0 : Option Nat} {h : Hp} (S : ab_H D cA sz h s H locs) (hl : lv_has ls 4 [(0, va_rf v0)]) (hF : f_X0_fire_38 v0 h = some ((), hh)) : W p l e (ab_rm 0 0 0) s m args below meth c H locs 0 0 (MQ below (ab_Q D cA sz none hh) args s 0 0 (fun q => sz ≤ q)) (F0 m 38 ls []) := by
  unfold f_X0_fire_38 at hF
  refine ab_aload_n X dX0_fire_38 rfl (lv_at hl 0 rfl) ?_
  refine lv_dup X.1 X.2.1 dX0_fire_39 (by simp [ab_cat, ab_cI, ab_cJ, ab_cD, ab_cF]) ?_
  refine ab_getI X S hF fi_0_6 lf_X0_44 dX0_fire_40 (fun x1 hF => ?_)
  refine lv_iconst (v := 1) X.1 X.2.1 dX0_fire_43 (by decide) ?_
  refine lv_iadd X.1 X.2.1 dX0_fire_44 ?_
  refine ab_putI X S hF fi_0_6 ci_0 (Or.inl rfl) rfl lf_X0_44 dX0_fire_45 (fun h2 H1 locs1 hF S => ?_)
  exact ab_vret X S hr hF dX0_fire_48
def f_X0_fire (this : Nat) (p0 : Int32) (p1 : UInt64) (h : Hp) : Option (Unit × Hp) :=
  (getR h (some this) 0 5).bind fun x1 =>
  (astD h x1 p0 4611686018427387904).bind fun h2 =>
  (getI h2 (some this) 0 6).bind fun x3 =>
  if 64 ≤ x3 then
    f_X0_fire_38 (some this) h2
  else
    (getR h2 (some this) 0 7).bind fun x5 =>
    (getI h2 (some this) 0 6).bind fun x6 =>
    (astI h2 x5 x6 p0).bind fun h7 =>
    (getR h7 (some this) 0 8).bind fun x8 =>
    (getI h7 (some this) 0 6).bind fun x9 =>
    (astD h7 x8 x9 p1).bind fun h10 =>
    f_X0_fire_38 (some this) h10
theorem mi_X0_fire : ab_MI yX0_fire cX0_fire 4 none 2 := ⟨lc_yX0_fire, lz_RX0, by decide, by decide, by decide +kernel⟩
set_option maxHeartbeats 4000000 in
set_option maxRecDepth 100000 in
theorem c_X0_fire (l : Launch) (D : va_G) (cA : Nat → ClassId) (sz : Nat) {this : Nat} {p0 : Int32} {p1 : UInt64} {h hh : Hp}  (hF : f_X0_fire this p0 p1 h = some ((), hh)) : ab_C l D cA sz yX0_fire cX0_fire 4 none 0 0 0 [.ref this, .int p0, .double p1] h none hh := by
  refine Met.ofW (cc := cX0_fire) (maxL := 4) (ret := none) (by decide) rfl ?_
  intro p e s m args below meth c s₁ B hml hv
  obtain ⟨rfl, hT, hR⟩ := hv
  have X : ab_X p s m _ meth c cX0_fire 4 RX0 D cA sz := (ab_enter B hml hT hR).1
  have S := (ab_enter B hml hT hR).2
  have hr := B.returns
  obtain ⟨ls, hls, hl⟩ := ab_entry m [.ref this, .int p0, .double p1] 4 (lv := [(0, .ref this), (1, .int p0), (2, .double p1)]) (by simp [lg_sl, ab_cat, ab_cI, ab_cJ, ab_cD, ab_cF, ab_cA]) (by simp [lv_args, ab_cat, ab_cI, ab_cJ, ab_cD, ab_cF, ab_cA])
  rw [hls]
  have hl : lv_has ls 4 [(0, va_rf (some this)), (1, .int p0), (2, .double p1)] := hl
  unfold f_X0_fire at hF
  show W p l e (ab_rm 0 0 0) s m _ below meth c s.heap [] 0 0 _ _
  refine ab_aload_n X dX0_fire_0 rfl (lv_at hl 0 rfl) ?_
  refine ab_getR X S hF fi_0_5 lf_X0_24 dX0_fire_1 (fun x1 hF => ?_)
  refine lv_iload_n X.1 X.2.1 dX0_fire_4 rfl (lv_at hl 1 rfl) ?_
  refine lv_ldc2d (v := 4611686018427387904) X.1 X.2.1 X.2.2.2.1 (X.2.2.2.2.1 _ ld_X0_47) dX0_fire_5 ?_
  refine ab_astD X S hF dX0_fire_8 (fun h2 H1 locs1 hF S => ?_)
  refine ab_aload_n X dX0_fire_9 rfl (lv_at hl 0 rfl) ?_
  refine ab_getI X S hF fi_0_6 lf_X0_44 dX0_fire_10 (fun x3 hF => ?_)
  refine lv_bipush (v := 64) X.1 X.2.1 dX0_fire_13 (by decide) ?_
  refine lv_icmp_ge (tgt := 38) X.1 X.2.1 dX0_fire_15 (by decide) (fun c4 => ?_) (fun c4 => ?_)
  · have hF := ab_pos c4 hF
    exact w_X0_fire_38 X hr  S (lv_sub hl [0] rfl) hF
  · have hF := ab_neg c4 hF
    refine ab_aload_n X dX0_fire_18 rfl (lv_at hl 0 rfl) ?_
    refine ab_getR X S hF fi_0_7 lf_X0_28 dX0_fire_19 (fun x5 hF => ?_)
    refine ab_aload_n X dX0_fire_22 rfl (lv_at hl 0 rfl) ?_
    refine ab_getI X S hF fi_0_6 lf_X0_44 dX0_fire_23 (fun x6 hF => ?_)
    refine lv_iload_n X.1 X.2.1 dX0_fire_26 rfl (lv_at hl 1 rfl) ?_
    refine ab_astI X S hF dX0_fire_27 (fun h7 H1 locs1 hF S => ?_)
    refine ab_aload_n X dX0_fire_28 rfl (lv_at hl 0 rfl) ?_
    refine ab_getR X S hF fi_0_8 lf_X0_31 dX0_fire_29 (fun x8 hF => ?_)
    refine ab_aload_n X dX0_fire_32 rfl (lv_at hl 0 rfl) ?_
    refine ab_getI X S hF fi_0_6 lf_X0_44 dX0_fire_33 (fun x9 hF => ?_)
    refine lv_dload_n X.1 X.2.1 dX0_fire_36 rfl (lv_at hl 2 rfl) ?_
    refine ab_astD X S hF dX0_fire_37 (fun h10 H1 locs1 hF S => ?_)
    exact w_X0_fire_38 X hr  S (lv_sub hl [0] rfl) hF
def f_X0_earliest_41 (k_9 : Option Nat → Int32 → UInt64 → Int32 → Hp → Option (Int32 × Hp)) (v0 : Option Nat) (v1 : Int32) (v2 : UInt64) (v4 : Int32) (h : Hp) : Option (Int32 × Hp) :=
  k_9 v0 v1 v2 (v4 + 1) h
set_option maxHeartbeats 4000000 in
set_option maxRecDepth 100000 in
theorem w_X0_earliest_41 {p : Program} {l : Launch} {e : Env} {s : State} {m : MethodId} {args : Array Value} {below : List Frame} {meth : Method} {c : Code} {D : va_G} {cA : Nat → ClassId} {sz : Nat} {rr : Int32} {hh : Hp} {k_9 : Option Nat → Int32 → UInt64 → Int32 → Hp → Option (Int32 × Hp)} (X : ab_X p s m args meth c cX0_earliest 5 RX0 D cA sz) (hr : meth.sig.returnType = (some .int)) (hk_9 : ∀ (v0 : Option Nat) (v1 : Int32) (v2 : UInt64) (v4 : Int32) (h : Hp) (H : Heap) (locs : List Loc) (ls : Array Slot), ab_H D cA sz h s H locs → lv_has ls 5 [(0, va_rf v0), (1, .int v1), (2, .double v2), (4, .int v4)] → k_9 v0 v1 v2 v4 h = some (rr, hh) → W p l e (ab_rm 0 0 0) s m args below meth c H locs 0 0 (MQ below (ab_Q D cA sz (some (.int rr)) hh) args s 0 0 (fun q => sz ≤ q)) (F0 m 9 ls [])) {H : Heap} {locs : List Loc} {ls : Array Slot} {v0 : Option Nat} {v1 : Int32} {v2 : UInt64} {v4 : Int32} {h : Hp} (S : ab_H D cA sz h s H locs) (hl : lv_has ls 5 [(0, va_rf v0), (1, .int v1), (2, .double v2), (4, .int v4)]) (hF : f_X0_earliest_41 k_9 v0 v1 v2 v4 h = some (rr, hh)) : W p l e (ab_rm 0 0 0) s m args below meth c H locs 0 0 (MQ below (ab_Q D cA sz (some (.int rr)) hh) args s 0 0 (fun q => sz ≤ q)) (F0 m 41 ls []) := by
  unfold f_X0_earliest_41 at hF
  refine lv_iinc (v := v4 + 1) (lv' := [(4, .int (v4 + 1)), (0, va_rf v0), (1, .int v1), (2, .double v2)]) X.1 X.2.1 dX0_earliest_41 hl (k := 3) rfl (by rfl) (by decide) (by simp [ab_cat, ab_cI, ab_cJ, ab_cD, ab_cF]) (fun ls hl => ?_)
  refine lv_goto (tgt := 9) X.1 X.2.1 dX0_earliest_44 (by decide) ?_
  exact hk_9 _ _ _ _ _ _ _ _ S (lv_sub hl [1, 2, 3, 0] rfl) hF
def f_X0_earliest_9  : Nat → Option Nat → Int32 → UInt64 → Int32 → Hp → Option (Int32 × Hp)
  | 0, _, _, _, _, _ => none
  | n + 1, v0, v1, v2, v4, h => (getI h v0 0 0).bind fun x1 =>
    if x1 ≤ v4 then
      some (v1, h)
    else
      (getR h v0 0 5).bind fun x3 =>
      (aldD h x3 v4).bind fun x4 =>
      if 0 ≤ (Op.cmpValue (FP.dcmp x4 v2) CmpOp.g) then
        f_X0_earliest_41 (f_X0_earliest_9 n) v0 v1 v2 v4 h
      else
        (getR h v0 0 5).bind fun x6 =>
        (aldD h x6 v4).bind fun x7 =>
        f_X0_earliest_41 (f_X0_earliest_9 n) v0 v4 x7 v4 h
set_option maxHeartbeats 4000000 in
set_option maxRecDepth 100000 in
theorem w_X0_earliest_9 {p : Program} {l : Launch} {e : Env} {s : State} {m : MethodId} {args : Array Value} {below : List Frame} {meth : Method} {c : Code} {D : va_G} {cA : Nat → ClassId} {sz : Nat} {rr : Int32} {hh : Hp}  (X : ab_X p s m args meth c cX0_earliest 5 RX0 D cA sz) (hr : meth.sig.returnType = (some .int))  (n : Nat) : ∀ (v0 : Option Nat) (v1 : Int32) (v2 : UInt64) (v4 : Int32) (h : Hp) (H : Heap) (locs : List Loc) (ls : Array Slot), ab_H D cA sz h s H locs → lv_has ls 5 [(0, va_rf v0), (1, .int v1), (2, .double v2), (4, .int v4)] → f_X0_earliest_9 n v0 v1 v2 v4 h = some (rr, hh) → W p l e (ab_rm 0 0 0) s m args below meth c H locs 0 0 (MQ below (ab_Q D cA sz (some (.int rr)) hh) args s 0 0 (fun q => sz ≤ q)) (F0 m 9 ls []) := by
  induction n with
  | zero => intro v0 v1 v2 v4 h H locs ls S hl hF; cases hF
  | succ n ih =>
    intro v0 v1 v2 v4 h H locs ls S hl hF
    rw [f_X0_earliest_9] at hF
    refine lv_iload X.1 X.2.1 dX0_earliest_9 (lv_at hl 3 rfl) ?_
    refine ab_aload_n X dX0_earliest_11 rfl (lv_at hl 0 rfl) ?_
    refine ab_getI X S hF fi_0_0 lf_X0_34 dX0_earliest_12 (fun x1 hF => ?_)
    refine lv_icmp_ge (tgt := 47) X.1 X.2.1 dX0_earliest_15 (by decide) (fun c2 => ?_) (fun c2 => ?_)
    · have hF := ab_pos c2 hF
      refine lv_iload_n X.1 X.2.1 dX0_earliest_47 rfl (lv_at hl 1 rfl) ?_
      exact ab_iret X S hr hF dX0_earliest_48
    · have hF := ab_neg c2 hF
      refine ab_aload_n X dX0_earliest_18 rfl (lv_at hl 0 rfl) ?_
      refine ab_getR X S hF fi_0_5 lf_X0_24 dX0_earliest_19 (fun x3 hF => ?_)
      refine lv_iload X.1 X.2.1 dX0_earliest_22 (lv_at hl 3 rfl) ?_
      refine ab_aldD X S hF dX0_earliest_24 (fun x4 hF => ?_)
      refine lv_dload_n X.1 X.2.1 dX0_earliest_25 rfl (lv_at hl 2 rfl) ?_
      refine lv_dcmp X.1 X.2.1 dX0_earliest_26 ?_
      refine lv_if_ge (tgt := 41) X.1 X.2.1 dX0_earliest_27 (by decide) (fun c5 => ?_) (fun c5 => ?_)
      · have hF := ab_pos c5 hF
        exact w_X0_earliest_41 X hr ih S (lv_sub hl [0, 1, 2, 3] rfl) hF
      · have hF := ab_neg c5 hF
        refine ab_aload_n X dX0_earliest_30 rfl (lv_at hl 0 rfl) ?_
        refine ab_getR X S hF fi_0_5 lf_X0_24 dX0_earliest_31 (fun x6 hF => ?_)
        refine lv_iload X.1 X.2.1 dX0_earliest_34 (lv_at hl 3 rfl) ?_
        refine ab_aldD X S hF dX0_earliest_36 (fun x7 hF => ?_)
        refine lv_dstore_n (i := 2) (lv' := [(2, .double x7), (0, va_rf v0), (1, .int v1), (4, .int v4)]) X.1 X.2.1 dX0_earliest_37 rfl hl (by decide) (by simp [ab_cat, ab_cI, ab_cJ, ab_cD, ab_cF]) (fun ls hl => ?_)
        refine lv_iload X.1 X.2.1 dX0_earliest_38 (lv_at hl 3 rfl) ?_
        refine lv_istore_n (i := 1) (lv' := [(1, .int v4), (2, .double x7), (0, va_rf v0), (4, .int v4)]) X.1 X.2.1 dX0_earliest_40 rfl hl (by decide) (by simp [ab_cat, ab_cI, ab_cJ, ab_cD, ab_cF]) (fun ls hl => ?_)
        exact w_X0_earliest_41 X hr ih S (lv_sub hl [2, 0, 1, 3] rfl) hF
def f_X0_earliest (this : Nat) (h : Hp) : Option (Int32 × Hp) :=
  f_X0_earliest_9 fuelN (some this) (-1) 4611686018427387904 0 h
theorem mi_X0_earliest : ab_MI yX0_earliest cX0_earliest 5 (some .int) 0 := ⟨lc_yX0_earliest, lz_RX0, by decide, by decide, by decide +kernel⟩
set_option maxHeartbeats 4000000 in
set_option maxRecDepth 100000 in
theorem c_X0_earliest (l : Launch) (D : va_G) (cA : Nat → ClassId) (sz : Nat) {this : Nat} {h hh : Hp} {rr : Int32} (hF : f_X0_earliest this h = some (rr, hh)) : ab_C l D cA sz yX0_earliest cX0_earliest 5 (some .int) 0 0 0 [.ref this] h (some (.int rr)) hh := by
  refine Met.ofW (cc := cX0_earliest) (maxL := 5) (ret := (some .int)) (by decide) rfl ?_
  intro p e s m args below meth c s₁ B hml hv
  obtain ⟨rfl, hT, hR⟩ := hv
  have X : ab_X p s m _ meth c cX0_earliest 5 RX0 D cA sz := (ab_enter B hml hT hR).1
  have S := (ab_enter B hml hT hR).2
  have hr := B.returns
  obtain ⟨ls, hls, hl⟩ := ab_entry m [.ref this] 5 (lv := [(0, .ref this)]) (by simp [lg_sl, ab_cat, ab_cI, ab_cJ, ab_cD, ab_cF, ab_cA]) (by simp [lv_args, ab_cat, ab_cI, ab_cJ, ab_cD, ab_cF, ab_cA])
  rw [hls]
  have hl : lv_has ls 5 [(0, va_rf (some this))] := hl
  unfold f_X0_earliest at hF
  show W p l e (ab_rm 0 0 0) s m _ below meth c s.heap [] 0 0 _ _
  refine lv_iconst (v := (-1)) X.1 X.2.1 dX0_earliest_0 (by decide) ?_
  refine lv_istore_n (i := 1) (lv' := [(1, .int (-1)), (0, va_rf (some this))]) X.1 X.2.1 dX0_earliest_1 rfl hl (by decide) (by simp [ab_cat, ab_cI, ab_cJ, ab_cD, ab_cF]) (fun ls hl => ?_)
  refine lv_ldc2d (v := 4611686018427387904) X.1 X.2.1 X.2.2.2.1 (X.2.2.2.2.1 _ ld_X0_47) dX0_earliest_2 ?_
  refine lv_dstore_n (i := 2) (lv' := [(2, .double 4611686018427387904), (1, .int (-1)), (0, va_rf (some this))]) X.1 X.2.1 dX0_earliest_5 rfl hl (by decide) (by simp [ab_cat, ab_cI, ab_cJ, ab_cD, ab_cF]) (fun ls hl => ?_)
  refine lv_iconst (v := 0) X.1 X.2.1 dX0_earliest_6 (by decide) ?_
  refine lv_istore (lv' := [(4, .int 0), (2, .double 4611686018427387904), (1, .int (-1)), (0, va_rf (some this))]) X.1 X.2.1 dX0_earliest_7 hl (by decide) (by simp [ab_cat, ab_cI, ab_cJ, ab_cD, ab_cF]) (fun ls hl => ?_)
  exact w_X0_earliest_9 X hr  fuelN _ _ _ _ _ _ _ _ S (lv_sub hl [3, 2, 1, 0] rfl) hF
def f_X0_turn_50   (h : Hp) : Option (Int32 × Hp) :=
  some (0, h)
set_option maxHeartbeats 4000000 in
set_option maxRecDepth 100000 in
theorem w_X0_turn_50 {p : Program} {l : Launch} {e : Env} {s : State} {m : MethodId} {args : Array Value} {below : List Frame} {meth : Method} {c : Code} {D : va_G} {cA : Nat → ClassId} {sz : Nat} {rr : Int32} {hh : Hp}  (X : ab_X p s m args meth c cX0_turn 4 RX0 D cA sz) (hr : meth.sig.returnType = (some .int))  {H : Heap} {locs : List Loc} {ls : Array Slot}  {h : Hp} (S : ab_H D cA sz h s H locs) (hl : lv_has ls 4 []) (hF : f_X0_turn_50  h = some (rr, hh)) : W p l e (ab_rm 0 0 0) s m args below meth c H locs 0 0 (MQ below (ab_Q D cA sz (some (.int rr)) hh) args s 0 0 (fun q => sz ≤ q)) (F0 m 50 ls []) := by
  unfold f_X0_turn_50 at hF
  refine lv_iconst (v := 0) X.1 X.2.1 dX0_turn_50 (by decide) ?_
  exact ab_iret X S hr hF dX0_turn_51
def f_X0_turn_39  (v0 : Option Nat) (v1 : Int32) (h : Hp) : Option (Int32 × Hp) :=
  (getR h v0 0 2).bind fun x1 =>
  (aldI h x1 11 v1).bind fun x2 =>
  if 0 < x2 then
    f_X0_turn_50 h
  else
    some ((-1), h)
set_option maxHeartbeats 4000000 in
set_option maxRecDepth 100000 in
theorem w_X0_turn_39 {p : Program} {l : Launch} {e : Env} {s : State} {m : MethodId} {args : Array Value} {below : List Frame} {meth : Method} {c : Code} {D : va_G} {cA : Nat → ClassId} {sz : Nat} {rr : Int32} {hh : Hp}  (X : ab_X p s m args meth c cX0_turn 4 RX0 D cA sz) (hr : meth.sig.returnType = (some .int))  {H : Heap} {locs : List Loc} {ls : Array Slot} {v0 : Option Nat} {v1 : Int32} {h : Hp} (S : ab_H D cA sz h s H locs) (hl : lv_has ls 4 [(0, va_rf v0), (1, .int v1)]) (hF : f_X0_turn_39 v0 v1 h = some (rr, hh)) : W p l e (ab_rm 0 0 0) s m args below meth c H locs 0 0 (MQ below (ab_Q D cA sz (some (.int rr)) hh) args s 0 0 (fun q => sz ≤ q)) (F0 m 39 ls []) := by
  unfold f_X0_turn_39 at hF
  refine ab_aload_n X dX0_turn_39 rfl (lv_at hl 0 rfl) ?_
  refine ab_getR X S hF fi_0_2 lf_X0_15 dX0_turn_40 (fun x1 hF => ?_)
  refine lv_iload_n X.1 X.2.1 dX0_turn_43 rfl (lv_at hl 1 rfl) ?_
  refine ab_aldI X S hF dX0_turn_44 (fun x2 hF => ?_)
  refine lv_if_gt (tgt := 50) X.1 X.2.1 dX0_turn_45 (by decide) (fun c3 => ?_) (fun c3 => ?_)
  · have hF := ab_pos c3 hF
    exact w_X0_turn_50 X hr  S (lv_sub hl [] rfl) hF
  · have hF := ab_neg c3 hF
    refine lv_iconst (v := (-1)) X.1 X.2.1 dX0_turn_48 (by decide) ?_
    exact ab_iret X S hr hF dX0_turn_49
def f_X0_turn_25  (v0 : Option Nat) (v1 : Int32) (v2 : Int32) (v3 : Int32) (h : Hp) : Option (Int32 × Hp) :=
  if ¬ v2 = 1 then
    f_X0_turn_50 h
  else
    if v3 = 0 then
      f_X0_turn_39 v0 v1 h
    else
      if ¬ v3 = (-1) then
        f_X0_turn_50 h
      else
        f_X0_turn_39 v0 v1 h
set_option maxHeartbeats 4000000 in
set_option maxRecDepth 100000 in
theorem w_X0_turn_25 {p : Program} {l : Launch} {e : Env} {s : State} {m : MethodId} {args : Array Value} {below : List Frame} {meth : Method} {c : Code} {D : va_G} {cA : Nat → ClassId} {sz : Nat} {rr : Int32} {hh : Hp}  (X : ab_X p s m args meth c cX0_turn 4 RX0 D cA sz) (hr : meth.sig.returnType = (some .int))  {H : Heap} {locs : List Loc} {ls : Array Slot} {v0 : Option Nat} {v1 : Int32} {v2 : Int32} {v3 : Int32} {h : Hp} (S : ab_H D cA sz h s H locs) (hl : lv_has ls 4 [(0, va_rf v0), (1, .int v1), (2, .int v2), (3, .int v3)]) (hF : f_X0_turn_25 v0 v1 v2 v3 h = some (rr, hh)) : W p l e (ab_rm 0 0 0) s m args below meth c H locs 0 0 (MQ below (ab_Q D cA sz (some (.int rr)) hh) args s 0 0 (fun q => sz ≤ q)) (F0 m 25 ls []) := by
  unfold f_X0_turn_25 at hF
  refine lv_iload_n X.1 X.2.1 dX0_turn_25 rfl (lv_at hl 2 rfl) ?_
  refine lv_iconst (v := 1) X.1 X.2.1 dX0_turn_26 (by decide) ?_
  refine lv_icmp_ne (tgt := 50) X.1 X.2.1 dX0_turn_27 (by decide) (fun c1 => ?_) (fun c1 => ?_)
  · have hF := ab_pos c1 hF
    exact w_X0_turn_50 X hr  S (lv_sub hl [] rfl) hF
  · have hF := ab_neg (fun q => q c1) hF
    refine lv_iload_n X.1 X.2.1 dX0_turn_30 rfl (lv_at hl 3 rfl) ?_
    refine lv_if_eq (tgt := 39) X.1 X.2.1 dX0_turn_31 (by decide) (fun c2 => ?_) (fun c2 => ?_)
    · have hF := ab_pos c2 hF
      exact w_X0_turn_39 X hr  S (lv_sub hl [0, 1] rfl) hF
    · have hF := ab_neg c2 hF
      refine lv_iload_n X.1 X.2.1 dX0_turn_34 rfl (lv_at hl 3 rfl) ?_
      refine lv_iconst (v := (-1)) X.1 X.2.1 dX0_turn_35 (by decide) ?_
      refine lv_icmp_ne (tgt := 50) X.1 X.2.1 dX0_turn_36 (by decide) (fun c3 => ?_) (fun c3 => ?_)
      · have hF := ab_pos c3 hF
        exact w_X0_turn_50 X hr  S (lv_sub hl [] rfl) hF
      · have hF := ab_neg (fun q => q c3) hF
        exact w_X0_turn_39 X hr  S (lv_sub hl [0, 1] rfl) hF
def f_X0_turn_14  (v0 : Option Nat) (v1 : Int32) (v2 : Int32) (v3 : Int32) (h : Hp) : Option (Int32 × Hp) :=
  (getR h v0 0 2).bind fun x1 =>
  (aldI h x1 11 v1).bind fun x2 =>
  if x2 < 0 then
    f_X0_turn_25 v0 v1 v2 v3 h
  else
    some (1, h)
set_option maxHeartbeats 4000000 in
set_option maxRecDepth 100000 in
theorem w_X0_turn_14 {p : Program} {l : Launch} {e : Env} {s : State} {m : MethodId} {args : Array Value} {below : List Frame} {meth : Method} {c : Code} {D : va_G} {cA : Nat → ClassId} {sz : Nat} {rr : Int32} {hh : Hp}  (X : ab_X p s m args meth c cX0_turn 4 RX0 D cA sz) (hr : meth.sig.returnType = (some .int))  {H : Heap} {locs : List Loc} {ls : Array Slot} {v0 : Option Nat} {v1 : Int32} {v2 : Int32} {v3 : Int32} {h : Hp} (S : ab_H D cA sz h s H locs) (hl : lv_has ls 4 [(0, va_rf v0), (1, .int v1), (2, .int v2), (3, .int v3)]) (hF : f_X0_turn_14 v0 v1 v2 v3 h = some (rr, hh)) : W p l e (ab_rm 0 0 0) s m args below meth c H locs 0 0 (MQ below (ab_Q D cA sz (some (.int rr)) hh) args s 0 0 (fun q => sz ≤ q)) (F0 m 14 ls []) := by
  unfold f_X0_turn_14 at hF
  refine ab_aload_n X dX0_turn_14 rfl (lv_at hl 0 rfl) ?_
  refine ab_getR X S hF fi_0_2 lf_X0_15 dX0_turn_15 (fun x1 hF => ?_)
  refine lv_iload_n X.1 X.2.1 dX0_turn_18 rfl (lv_at hl 1 rfl) ?_
  refine ab_aldI X S hF dX0_turn_19 (fun x2 hF => ?_)
  refine lv_if_lt (tgt := 25) X.1 X.2.1 dX0_turn_20 (by decide) (fun c3 => ?_) (fun c3 => ?_)
  · have hF := ab_pos c3 hF
    exact w_X0_turn_25 X hr  S (lv_sub hl [0, 1, 2, 3] rfl) hF
  · have hF := ab_neg c3 hF
    refine lv_iconst (v := 1) X.1 X.2.1 dX0_turn_23 (by decide) ?_
    exact ab_iret X S hr hF dX0_turn_24
def f_X0_turn (this : Nat) (p0 : Int32) (p1 : Int32) (p2 : Int32) (h : Hp) : Option (Int32 × Hp) :=
  if ¬ p1 = (-1) then
    f_X0_turn_25 (some this) p0 p1 p2 h
  else
    if p2 = 0 then
      f_X0_turn_14 (some this) p0 p1 p2 h
    else
      if ¬ p2 = 1 then
        f_X0_turn_25 (some this) p0 p1 p2 h
      else
        f_X0_turn_14 (some this) p0 p1 p2 h
theorem mi_X0_turn : ab_MI yX0_turn cX0_turn 4 (some .int) 3 := ⟨lc_yX0_turn, lz_RX0, by decide, by decide, by decide +kernel⟩
set_option maxHeartbeats 4000000 in
set_option maxRecDepth 100000 in
theorem c_X0_turn (l : Launch) (D : va_G) (cA : Nat → ClassId) (sz : Nat) {this : Nat} {p0 : Int32} {p1 : Int32} {p2 : Int32} {h hh : Hp} {rr : Int32} (hF : f_X0_turn this p0 p1 p2 h = some (rr, hh)) : ab_C l D cA sz yX0_turn cX0_turn 4 (some .int) 0 0 0 [.ref this, .int p0, .int p1, .int p2] h (some (.int rr)) hh := by
  refine Met.ofW (cc := cX0_turn) (maxL := 4) (ret := (some .int)) (by decide) rfl ?_
  intro p e s m args below meth c s₁ B hml hv
  obtain ⟨rfl, hT, hR⟩ := hv
  have X : ab_X p s m _ meth c cX0_turn 4 RX0 D cA sz := (ab_enter B hml hT hR).1
  have S := (ab_enter B hml hT hR).2
  have hr := B.returns
  obtain ⟨ls, hls, hl⟩ := ab_entry m [.ref this, .int p0, .int p1, .int p2] 4 (lv := [(0, .ref this), (1, .int p0), (2, .int p1), (3, .int p2)]) (by simp [lg_sl, ab_cat, ab_cI, ab_cJ, ab_cD, ab_cF, ab_cA]) (by simp [lv_args, ab_cat, ab_cI, ab_cJ, ab_cD, ab_cF, ab_cA])
  rw [hls]
  have hl : lv_has ls 4 [(0, va_rf (some this)), (1, .int p0), (2, .int p1), (3, .int p2)] := hl
  unfold f_X0_turn at hF
  show W p l e (ab_rm 0 0 0) s m _ below meth c s.heap [] 0 0 _ _
  refine lv_iload_n X.1 X.2.1 dX0_turn_0 rfl (lv_at hl 2 rfl) ?_
  refine lv_iconst (v := (-1)) X.1 X.2.1 dX0_turn_1 (by decide) ?_
  refine lv_icmp_ne (tgt := 25) X.1 X.2.1 dX0_turn_2 (by decide) (fun c1 => ?_) (fun c1 => ?_)
  · have hF := ab_pos c1 hF
    exact w_X0_turn_25 X hr  S (lv_sub hl [0, 1, 2, 3] rfl) hF
  · have hF := ab_neg (fun q => q c1) hF
    refine lv_iload_n X.1 X.2.1 dX0_turn_5 rfl (lv_at hl 3 rfl) ?_
    refine lv_if_eq (tgt := 14) X.1 X.2.1 dX0_turn_6 (by decide) (fun c2 => ?_) (fun c2 => ?_)
    · have hF := ab_pos c2 hF
      exact w_X0_turn_14 X hr  S (lv_sub hl [0, 1, 2, 3] rfl) hF
    · have hF := ab_neg c2 hF
      refine lv_iload_n X.1 X.2.1 dX0_turn_9 rfl (lv_at hl 3 rfl) ?_
      refine lv_iconst (v := 1) X.1 X.2.1 dX0_turn_10 (by decide) ?_
      refine lv_icmp_ne (tgt := 25) X.1 X.2.1 dX0_turn_11 (by decide) (fun c3 => ?_) (fun c3 => ?_)
      · have hF := ab_pos c3 hF
        exact w_X0_turn_25 X hr  S (lv_sub hl [0, 1, 2, 3] rfl) hF
      · have hF := ab_neg (fun q => q c3) hF
        exact w_X0_turn_14 X hr  S (lv_sub hl [0, 1, 2, 3] rfl) hF
def f_X1_hasVariable_17  (u0 : Int32) (h : Hp) : Option (Int32 × Hp) :=
  if u0 = 0 ∨ u0 = 1 then some (u0, h) else none
set_option maxHeartbeats 4000000 in
set_option maxRecDepth 100000 in
theorem w_X1_hasVariable_17 {p : Program} {l : Launch} {e : Env} {s : State} {m : MethodId} {args : Array Value} {below : List Frame} {meth : Method} {c : Code} {D : va_G} {cA : Nat → ClassId} {sz : Nat} {rr : Int32} {hh : Hp}  (X : ab_X p s m args meth c cX1_hasVariable 2 RX1 D cA sz) (hr : meth.sig.returnType = (some .boolean))  {H : Heap} {locs : List Loc} {ls : Array Slot} {u0 : Int32} {h : Hp} (S : ab_H D cA sz h s H locs) (hl : lv_has ls 2 []) (hF : f_X1_hasVariable_17 u0 h = some (rr, hh)) : W p l e (ab_rm 0 0 0) s m args below meth c H locs 0 0 (MQ below (ab_Q D cA sz (some (.int rr)) hh) args s 0 0 (fun q => sz ≤ q)) (F0 m 17 ls [.int u0]) := by
  unfold f_X1_hasVariable_17 at hF
  exact ab_zret X S hr hF dX1_hasVariable_17
def f_X1_hasVariable_16   (h : Hp) : Option (Int32 × Hp) :=
  f_X1_hasVariable_17 0 h
set_option maxHeartbeats 4000000 in
set_option maxRecDepth 100000 in
theorem w_X1_hasVariable_16 {p : Program} {l : Launch} {e : Env} {s : State} {m : MethodId} {args : Array Value} {below : List Frame} {meth : Method} {c : Code} {D : va_G} {cA : Nat → ClassId} {sz : Nat} {rr : Int32} {hh : Hp}  (X : ab_X p s m args meth c cX1_hasVariable 2 RX1 D cA sz) (hr : meth.sig.returnType = (some .boolean))  {H : Heap} {locs : List Loc} {ls : Array Slot}  {h : Hp} (S : ab_H D cA sz h s H locs) (hl : lv_has ls 2 []) (hF : f_X1_hasVariable_16  h = some (rr, hh)) : W p l e (ab_rm 0 0 0) s m args below meth c H locs 0 0 (MQ below (ab_Q D cA sz (some (.int rr)) hh) args s 0 0 (fun q => sz ≤ q)) (F0 m 16 ls []) := by
  unfold f_X1_hasVariable_16 at hF
  refine lv_iconst (v := 0) X.1 X.2.1 dX1_hasVariable_16 (by decide) ?_
  exact w_X1_hasVariable_17 X hr  S (lv_sub hl [] rfl) hF
def f_X1_hasVariable (this : Nat) (p0 : Int32) (h : Hp) : Option (Int32 × Hp) :=
  if p0 < 0 then
    f_X1_hasVariable_16 h
  else
    (getI h (some this) 1 1).bind fun x2 =>
    if x2 ≤ p0 then
      f_X1_hasVariable_16 h
    else
      f_X1_hasVariable_17 1 h
theorem mi_X1_hasVariable : ab_MI yX1_hasVariable cX1_hasVariable 2 (some .boolean) 1 := ⟨lc_yX1_hasVariable, lz_RX1, by decide, by decide, by decide +kernel⟩
set_option maxHeartbeats 4000000 in
set_option maxRecDepth 100000 in
theorem c_X1_hasVariable (l : Launch) (D : va_G) (cA : Nat → ClassId) (sz : Nat) {this : Nat} {p0 : Int32} {h hh : Hp} {rr : Int32} (hF : f_X1_hasVariable this p0 h = some (rr, hh)) : ab_C l D cA sz yX1_hasVariable cX1_hasVariable 2 (some .boolean) 0 0 0 [.ref this, .int p0] h (some (.int rr)) hh := by
  refine Met.ofW (cc := cX1_hasVariable) (maxL := 2) (ret := (some .boolean)) (by decide) rfl ?_
  intro p e s m args below meth c s₁ B hml hv
  obtain ⟨rfl, hT, hR⟩ := hv
  have X : ab_X p s m _ meth c cX1_hasVariable 2 RX1 D cA sz := (ab_enter B hml hT hR).1
  have S := (ab_enter B hml hT hR).2
  have hr := B.returns
  obtain ⟨ls, hls, hl⟩ := ab_entry m [.ref this, .int p0] 2 (lv := [(0, .ref this), (1, .int p0)]) (by simp [lg_sl, ab_cat, ab_cI, ab_cJ, ab_cD, ab_cF, ab_cA]) (by simp [lv_args, ab_cat, ab_cI, ab_cJ, ab_cD, ab_cF, ab_cA])
  rw [hls]
  have hl : lv_has ls 2 [(0, va_rf (some this)), (1, .int p0)] := hl
  unfold f_X1_hasVariable at hF
  show W p l e (ab_rm 0 0 0) s m _ below meth c s.heap [] 0 0 _ _
  refine lv_iload_n X.1 X.2.1 dX1_hasVariable_0 rfl (lv_at hl 1 rfl) ?_
  refine lv_if_lt (tgt := 16) X.1 X.2.1 dX1_hasVariable_1 (by decide) (fun c1 => ?_) (fun c1 => ?_)
  · have hF := ab_pos c1 hF
    exact w_X1_hasVariable_16 X hr  S (lv_sub hl [] rfl) hF
  · have hF := ab_neg c1 hF
    refine lv_iload_n X.1 X.2.1 dX1_hasVariable_4 rfl (lv_at hl 1 rfl) ?_
    refine ab_aload_n X dX1_hasVariable_5 rfl (lv_at hl 0 rfl) ?_
    refine ab_getI X S hF fi_1_1 lf_X1_15 dX1_hasVariable_6 (fun x2 hF => ?_)
    refine lv_icmp_ge (tgt := 16) X.1 X.2.1 dX1_hasVariable_9 (by decide) (fun c3 => ?_) (fun c3 => ?_)
    · have hF := ab_pos c3 hF
      exact w_X1_hasVariable_16 X hr  S (lv_sub hl [] rfl) hF
    · have hF := ab_neg c3 hF
      refine lv_iconst (v := 1) X.1 X.2.1 dX1_hasVariable_12 (by decide) ?_
      refine lv_goto (tgt := 17) X.1 X.2.1 dX1_hasVariable_13 (by decide) ?_
      exact w_X1_hasVariable_17 X hr  S (lv_sub hl [] rfl) hF
def f_X1_hasNode_17  (u0 : Int32) (h : Hp) : Option (Int32 × Hp) :=
  if u0 = 0 ∨ u0 = 1 then some (u0, h) else none
set_option maxHeartbeats 4000000 in
set_option maxRecDepth 100000 in
theorem w_X1_hasNode_17 {p : Program} {l : Launch} {e : Env} {s : State} {m : MethodId} {args : Array Value} {below : List Frame} {meth : Method} {c : Code} {D : va_G} {cA : Nat → ClassId} {sz : Nat} {rr : Int32} {hh : Hp}  (X : ab_X p s m args meth c cX1_hasNode 2 RX1 D cA sz) (hr : meth.sig.returnType = (some .boolean))  {H : Heap} {locs : List Loc} {ls : Array Slot} {u0 : Int32} {h : Hp} (S : ab_H D cA sz h s H locs) (hl : lv_has ls 2 []) (hF : f_X1_hasNode_17 u0 h = some (rr, hh)) : W p l e (ab_rm 0 0 0) s m args below meth c H locs 0 0 (MQ below (ab_Q D cA sz (some (.int rr)) hh) args s 0 0 (fun q => sz ≤ q)) (F0 m 17 ls [.int u0]) := by
  unfold f_X1_hasNode_17 at hF
  exact ab_zret X S hr hF dX1_hasNode_17
def f_X1_hasNode_16   (h : Hp) : Option (Int32 × Hp) :=
  f_X1_hasNode_17 0 h
set_option maxHeartbeats 4000000 in
set_option maxRecDepth 100000 in
theorem w_X1_hasNode_16 {p : Program} {l : Launch} {e : Env} {s : State} {m : MethodId} {args : Array Value} {below : List Frame} {meth : Method} {c : Code} {D : va_G} {cA : Nat → ClassId} {sz : Nat} {rr : Int32} {hh : Hp}  (X : ab_X p s m args meth c cX1_hasNode 2 RX1 D cA sz) (hr : meth.sig.returnType = (some .boolean))  {H : Heap} {locs : List Loc} {ls : Array Slot}  {h : Hp} (S : ab_H D cA sz h s H locs) (hl : lv_has ls 2 []) (hF : f_X1_hasNode_16  h = some (rr, hh)) : W p l e (ab_rm 0 0 0) s m args below meth c H locs 0 0 (MQ below (ab_Q D cA sz (some (.int rr)) hh) args s 0 0 (fun q => sz ≤ q)) (F0 m 16 ls []) := by
  unfold f_X1_hasNode_16 at hF
  refine lv_iconst (v := 0) X.1 X.2.1 dX1_hasNode_16 (by decide) ?_
  exact w_X1_hasNode_17 X hr  S (lv_sub hl [] rfl) hF
def f_X1_hasNode (this : Nat) (p0 : Int32) (h : Hp) : Option (Int32 × Hp) :=
  if p0 < 0 then
    f_X1_hasNode_16 h
  else
    (getI h (some this) 1 10).bind fun x2 =>
    if x2 ≤ p0 then
      f_X1_hasNode_16 h
    else
      f_X1_hasNode_17 1 h
theorem mi_X1_hasNode : ab_MI yX1_hasNode cX1_hasNode 2 (some .boolean) 1 := ⟨lc_yX1_hasNode, lz_RX1, by decide, by decide, by decide +kernel⟩
set_option maxHeartbeats 4000000 in
set_option maxRecDepth 100000 in
theorem c_X1_hasNode (l : Launch) (D : va_G) (cA : Nat → ClassId) (sz : Nat) {this : Nat} {p0 : Int32} {h hh : Hp} {rr : Int32} (hF : f_X1_hasNode this p0 h = some (rr, hh)) : ab_C l D cA sz yX1_hasNode cX1_hasNode 2 (some .boolean) 0 0 0 [.ref this, .int p0] h (some (.int rr)) hh := by
  refine Met.ofW (cc := cX1_hasNode) (maxL := 2) (ret := (some .boolean)) (by decide) rfl ?_
  intro p e s m args below meth c s₁ B hml hv
  obtain ⟨rfl, hT, hR⟩ := hv
  have X : ab_X p s m _ meth c cX1_hasNode 2 RX1 D cA sz := (ab_enter B hml hT hR).1
  have S := (ab_enter B hml hT hR).2
  have hr := B.returns
  obtain ⟨ls, hls, hl⟩ := ab_entry m [.ref this, .int p0] 2 (lv := [(0, .ref this), (1, .int p0)]) (by simp [lg_sl, ab_cat, ab_cI, ab_cJ, ab_cD, ab_cF, ab_cA]) (by simp [lv_args, ab_cat, ab_cI, ab_cJ, ab_cD, ab_cF, ab_cA])
  rw [hls]
  have hl : lv_has ls 2 [(0, va_rf (some this)), (1, .int p0)] := hl
  unfold f_X1_hasNode at hF
  show W p l e (ab_rm 0 0 0) s m _ below meth c s.heap [] 0 0 _ _
  refine lv_iload_n X.1 X.2.1 dX1_hasNode_0 rfl (lv_at hl 1 rfl) ?_
  refine lv_if_lt (tgt := 16) X.1 X.2.1 dX1_hasNode_1 (by decide) (fun c1 => ?_) (fun c1 => ?_)
  · have hF := ab_pos c1 hF
    exact w_X1_hasNode_16 X hr  S (lv_sub hl [] rfl) hF
  · have hF := ab_neg c1 hF
    refine lv_iload_n X.1 X.2.1 dX1_hasNode_4 rfl (lv_at hl 1 rfl) ?_
    refine ab_aload_n X dX1_hasNode_5 rfl (lv_at hl 0 rfl) ?_
    refine ab_getI X S hF fi_1_10 lf_X1_58 dX1_hasNode_6 (fun x2 hF => ?_)
    refine lv_icmp_ge (tgt := 16) X.1 X.2.1 dX1_hasNode_9 (by decide) (fun c3 => ?_) (fun c3 => ?_)
    · have hF := ab_pos c3 hF
      exact w_X1_hasNode_16 X hr  S (lv_sub hl [] rfl) hF
    · have hF := ab_neg c3 hF
      refine lv_iconst (v := 1) X.1 X.2.1 dX1_hasNode_12 (by decide) ?_
      refine lv_goto (tgt := 17) X.1 X.2.1 dX1_hasNode_13 (by decide) ?_
      exact w_X1_hasNode_17 X hr  S (lv_sub hl [] rfl) hF
def f_X1_isNarrow_17  (u0 : Int32) (h : Hp) : Option (Int32 × Hp) :=
  if u0 = 0 ∨ u0 = 1 then some (u0, h) else none
set_option maxHeartbeats 4000000 in
set_option maxRecDepth 100000 in
theorem w_X1_isNarrow_17 {p : Program} {l : Launch} {e : Env} {s : State} {m : MethodId} {args : Array Value} {below : List Frame} {meth : Method} {c : Code} {D : va_G} {cA : Nat → ClassId} {sz : Nat} {rr : Int32} {hh : Hp}  (X : ab_X p s m args meth c cX1_isNarrow 2 RX1 D cA sz) (hr : meth.sig.returnType = (some .boolean))  {H : Heap} {locs : List Loc} {ls : Array Slot} {u0 : Int32} {h : Hp} (S : ab_H D cA sz h s H locs) (hl : lv_has ls 2 []) (hF : f_X1_isNarrow_17 u0 h = some (rr, hh)) : W p l e (ab_rm 0 0 0) s m args below meth c H locs 0 0 (MQ below (ab_Q D cA sz (some (.int rr)) hh) args s 0 0 (fun q => sz ≤ q)) (F0 m 17 ls [.int u0]) := by
  unfold f_X1_isNarrow_17 at hF
  exact ab_zret X S hr hF dX1_isNarrow_17
def f_X1_isNarrow (this : Nat) (p0 : Int32) (h : Hp) : Option (Int32 × Hp) :=
  (getI h (some this) 1 2).bind fun x1 =>
  if ¬ ((x1 >>> (p0 &&& 31)) &&& 1) = 1 then
    f_X1_isNarrow_17 0 h
  else
    f_X1_isNarrow_17 1 h
theorem mi_X1_isNarrow : ab_MI yX1_isNarrow cX1_isNarrow 2 (some .boolean) 1 := ⟨lc_yX1_isNarrow, lz_RX1, by decide, by decide, by decide +kernel⟩
set_option maxHeartbeats 4000000 in
set_option maxRecDepth 100000 in
theorem c_X1_isNarrow (l : Launch) (D : va_G) (cA : Nat → ClassId) (sz : Nat) {this : Nat} {p0 : Int32} {h hh : Hp} {rr : Int32} (hF : f_X1_isNarrow this p0 h = some (rr, hh)) : ab_C l D cA sz yX1_isNarrow cX1_isNarrow 2 (some .boolean) 0 0 0 [.ref this, .int p0] h (some (.int rr)) hh := by
  refine Met.ofW (cc := cX1_isNarrow) (maxL := 2) (ret := (some .boolean)) (by decide) rfl ?_
  intro p e s m args below meth c s₁ B hml hv
  obtain ⟨rfl, hT, hR⟩ := hv
  have X : ab_X p s m _ meth c cX1_isNarrow 2 RX1 D cA sz := (ab_enter B hml hT hR).1
  have S := (ab_enter B hml hT hR).2
  have hr := B.returns
  obtain ⟨ls, hls, hl⟩ := ab_entry m [.ref this, .int p0] 2 (lv := [(0, .ref this), (1, .int p0)]) (by simp [lg_sl, ab_cat, ab_cI, ab_cJ, ab_cD, ab_cF, ab_cA]) (by simp [lv_args, ab_cat, ab_cI, ab_cJ, ab_cD, ab_cF, ab_cA])
  rw [hls]
  have hl : lv_has ls 2 [(0, va_rf (some this)), (1, .int p0)] := hl
  unfold f_X1_isNarrow at hF
  show W p l e (ab_rm 0 0 0) s m _ below meth c s.heap [] 0 0 _ _
  refine ab_aload_n X dX1_isNarrow_0 rfl (lv_at hl 0 rfl) ?_
  refine ab_getI X S hF fi_1_2 lf_X1_18 dX1_isNarrow_1 (fun x1 hF => ?_)
  refine lv_iload_n X.1 X.2.1 dX1_isNarrow_4 rfl (lv_at hl 1 rfl) ?_
  refine lv_ishr X.1 X.2.1 dX1_isNarrow_5 ?_
  refine lv_iconst (v := 1) X.1 X.2.1 dX1_isNarrow_6 (by decide) ?_
  refine lv_iand X.1 X.2.1 dX1_isNarrow_7 ?_
  refine lv_iconst (v := 1) X.1 X.2.1 dX1_isNarrow_8 (by decide) ?_
  refine lv_icmp_ne (tgt := 16) X.1 X.2.1 dX1_isNarrow_9 (by decide) (fun c2 => ?_) (fun c2 => ?_)
  · have hF := ab_pos c2 hF
    refine lv_iconst (v := 0) X.1 X.2.1 dX1_isNarrow_16 (by decide) ?_
    exact w_X1_isNarrow_17 X hr  S (lv_sub hl [] rfl) hF
  · have hF := ab_neg (fun q => q c2) hF
    refine lv_iconst (v := 1) X.1 X.2.1 dX1_isNarrow_12 (by decide) ?_
    refine lv_goto (tgt := 17) X.1 X.2.1 dX1_isNarrow_13 (by decide) ?_
    exact w_X1_isNarrow_17 X hr  S (lv_sub hl [] rfl) hF
def f_X1_isReady_2  : Nat → Option Nat → Int32 → Hp → Option (Int32 × Hp)
  | 0, _, _, _ => none
  | n + 1, v0, v1, h => (getI h v0 1 1).bind fun x1 =>
    if x1 ≤ v1 then
      if 1 = 0 ∨ 1 = 1 then some (1, h) else none
    else
      (getR h v0 1 11).bind fun x3 =>
      (aldI h x3 11 v1).bind fun x4 =>
      if 0 ≤ x4 then
        f_X1_isReady_2 n v0 (v1 + 1) h
      else
        if 0 = 0 ∨ 0 = 1 then some (0, h) else none
set_option maxHeartbeats 4000000 in
set_option maxRecDepth 100000 in
theorem w_X1_isReady_2 {p : Program} {l : Launch} {e : Env} {s : State} {m : MethodId} {args : Array Value} {below : List Frame} {meth : Method} {c : Code} {D : va_G} {cA : Nat → ClassId} {sz : Nat} {rr : Int32} {hh : Hp}  (X : ab_X p s m args meth c cX1_isReady 2 RX1 D cA sz) (hr : meth.sig.returnType = (some .boolean))  (n : Nat) : ∀ (v0 : Option Nat) (v1 : Int32) (h : Hp) (H : Heap) (locs : List Loc) (ls : Array Slot), ab_H D cA sz h s H locs → lv_has ls 2 [(0, va_rf v0), (1, .int v1)] → f_X1_isReady_2 n v0 v1 h = some (rr, hh) → W p l e (ab_rm 0 0 0) s m args below meth c H locs 0 0 (MQ below (ab_Q D cA sz (some (.int rr)) hh) args s 0 0 (fun q => sz ≤ q)) (F0 m 2 ls []) := by
  induction n with
  | zero => intro v0 v1 h H locs ls S hl hF; cases hF
  | succ n ih =>
    intro v0 v1 h H locs ls S hl hF
    rw [f_X1_isReady_2] at hF
    refine lv_iload_n X.1 X.2.1 dX1_isReady_2 rfl (lv_at hl 1 rfl) ?_
    refine ab_aload_n X dX1_isReady_3 rfl (lv_at hl 0 rfl) ?_
    refine ab_getI X S hF fi_1_1 lf_X1_15 dX1_isReady_4 (fun x1 hF => ?_)
    refine lv_icmp_ge (tgt := 27) X.1 X.2.1 dX1_isReady_7 (by decide) (fun c2 => ?_) (fun c2 => ?_)
    · have hF := ab_pos c2 hF
      refine lv_iconst (v := 1) X.1 X.2.1 dX1_isReady_27 (by decide) ?_
      exact ab_zret X S hr hF dX1_isReady_28
    · have hF := ab_neg c2 hF
      refine ab_aload_n X dX1_isReady_10 rfl (lv_at hl 0 rfl) ?_
      refine ab_getR X S hF fi_1_11 lf_X1_55 dX1_isReady_11 (fun x3 hF => ?_)
      refine lv_iload_n X.1 X.2.1 dX1_isReady_14 rfl (lv_at hl 1 rfl) ?_
      refine ab_aldI X S hF dX1_isReady_15 (fun x4 hF => ?_)
      refine lv_if_ge (tgt := 21) X.1 X.2.1 dX1_isReady_16 (by decide) (fun c5 => ?_) (fun c5 => ?_)
      · have hF := ab_pos c5 hF
        refine lv_iinc (v := v1 + 1) (lv' := [(1, .int (v1 + 1)), (0, va_rf v0)]) X.1 X.2.1 dX1_isReady_21 hl (k := 1) rfl (by rfl) (by decide) (by simp [ab_cat, ab_cI, ab_cJ, ab_cD, ab_cF]) (fun ls hl => ?_)
        refine lv_goto (tgt := 2) X.1 X.2.1 dX1_isReady_24 (by decide) ?_
        exact ih _ _ _ _ _ _ S (lv_sub hl [1, 0] rfl) hF
      · have hF := ab_neg c5 hF
        refine lv_iconst (v := 0) X.1 X.2.1 dX1_isReady_19 (by decide) ?_
        exact ab_zret X S hr hF dX1_isReady_20
def f_X1_isReady (this : Nat) (h : Hp) : Option (Int32 × Hp) :=
  f_X1_isReady_2 fuelN (some this) 0 h
theorem mi_X1_isReady : ab_MI yX1_isReady cX1_isReady 2 (some .boolean) 0 := ⟨lc_yX1_isReady, lz_RX1, by decide, by decide, by decide +kernel⟩
set_option maxHeartbeats 4000000 in
set_option maxRecDepth 100000 in
theorem c_X1_isReady (l : Launch) (D : va_G) (cA : Nat → ClassId) (sz : Nat) {this : Nat} {h hh : Hp} {rr : Int32} (hF : f_X1_isReady this h = some (rr, hh)) : ab_C l D cA sz yX1_isReady cX1_isReady 2 (some .boolean) 0 0 0 [.ref this] h (some (.int rr)) hh := by
  refine Met.ofW (cc := cX1_isReady) (maxL := 2) (ret := (some .boolean)) (by decide) rfl ?_
  intro p e s m args below meth c s₁ B hml hv
  obtain ⟨rfl, hT, hR⟩ := hv
  have X : ab_X p s m _ meth c cX1_isReady 2 RX1 D cA sz := (ab_enter B hml hT hR).1
  have S := (ab_enter B hml hT hR).2
  have hr := B.returns
  obtain ⟨ls, hls, hl⟩ := ab_entry m [.ref this] 2 (lv := [(0, .ref this)]) (by simp [lg_sl, ab_cat, ab_cI, ab_cJ, ab_cD, ab_cF, ab_cA]) (by simp [lv_args, ab_cat, ab_cI, ab_cJ, ab_cD, ab_cF, ab_cA])
  rw [hls]
  have hl : lv_has ls 2 [(0, va_rf (some this))] := hl
  unfold f_X1_isReady at hF
  show W p l e (ab_rm 0 0 0) s m _ below meth c s.heap [] 0 0 _ _
  refine lv_iconst (v := 0) X.1 X.2.1 dX1_isReady_0 (by decide) ?_
  refine lv_istore_n (i := 1) (lv' := [(1, .int 0), (0, va_rf (some this))]) X.1 X.2.1 dX1_isReady_1 rfl hl (by decide) (by simp [ab_cat, ab_cI, ab_cJ, ab_cD, ab_cF]) (fun ls hl => ?_)
  exact w_X1_isReady_2 X hr  fuelN _ _ _ _ _ _ S (lv_sub hl [1, 0] rfl) hF
def f_X1_add (this : Nat) (p0 : Int32) (p1 : Int32) (p2 : Int32) (p3 : Int32) (p4 : UInt64) (h : Hp) : Option (Int32 × Hp) :=
  (getI h (some this) 1 10).bind fun x1 =>
  if x1 < 48 then
    (getR h (some this) 1 5).bind fun x3 =>
    (getI h (some this) 1 10).bind fun x4 =>
    (astI h x3 x4 p0).bind fun h5 =>
    (getR h5 (some this) 1 6).bind fun x6 =>
    (getI h5 (some this) 1 10).bind fun x7 =>
    (astI h5 x6 x7 p1).bind fun h8 =>
    (getR h8 (some this) 1 7).bind fun x9 =>
    (getI h8 (some this) 1 10).bind fun x10 =>
    (astI h8 x9 x10 p2).bind fun h11 =>
    (getR h11 (some this) 1 8).bind fun x12 =>
    (getI h11 (some this) 1 10).bind fun x13 =>
    (astI h11 x12 x13 p3).bind fun h14 =>
    (getR h14 (some this) 1 9).bind fun x15 =>
    (getI h14 (some this) 1 10).bind fun x16 =>
    (astD h14 x15 x16 p4).bind fun h17 =>
    (getI h17 (some this) 1 10).bind fun x18 =>
    (putI h17 (some this) 1 10 (x18 + 1)).bind fun h19 =>
    (getI h19 (some this) 1 10).bind fun x20 =>
    some (x20 - 1, h19)
  else
    some ((-3), h)
theorem mi_X1_add : ab_MI yX1_add cX1_add 7 (some .int) 5 := ⟨lc_yX1_add, lz_RX1, by decide, by decide, by decide +kernel⟩
set_option maxHeartbeats 4000000 in
set_option maxRecDepth 100000 in
theorem c_X1_add (l : Launch) (D : va_G) (cA : Nat → ClassId) (sz : Nat) {this : Nat} {p0 : Int32} {p1 : Int32} {p2 : Int32} {p3 : Int32} {p4 : UInt64} {h hh : Hp} {rr : Int32} (hF : f_X1_add this p0 p1 p2 p3 p4 h = some (rr, hh)) : ab_C l D cA sz yX1_add cX1_add 7 (some .int) 0 0 0 [.ref this, .int p0, .int p1, .int p2, .int p3, .double p4] h (some (.int rr)) hh := by
  refine Met.ofW (cc := cX1_add) (maxL := 7) (ret := (some .int)) (by decide) rfl ?_
  intro p e s m args below meth c s₁ B hml hv
  obtain ⟨rfl, hT, hR⟩ := hv
  have X : ab_X p s m _ meth c cX1_add 7 RX1 D cA sz := (ab_enter B hml hT hR).1
  have S := (ab_enter B hml hT hR).2
  have hr := B.returns
  obtain ⟨ls, hls, hl⟩ := ab_entry m [.ref this, .int p0, .int p1, .int p2, .int p3, .double p4] 7 (lv := [(0, .ref this), (1, .int p0), (2, .int p1), (3, .int p2), (4, .int p3), (5, .double p4)]) (by simp [lg_sl, ab_cat, ab_cI, ab_cJ, ab_cD, ab_cF, ab_cA]) (by simp [lv_args, ab_cat, ab_cI, ab_cJ, ab_cD, ab_cF, ab_cA])
  rw [hls]
  have hl : lv_has ls 7 [(0, va_rf (some this)), (1, .int p0), (2, .int p1), (3, .int p2), (4, .int p3), (5, .double p4)] := hl
  unfold f_X1_add at hF
  show W p l e (ab_rm 0 0 0) s m _ below meth c s.heap [] 0 0 _ _
  refine ab_aload_n X dX1_add_0 rfl (lv_at hl 0 rfl) ?_
  refine ab_getI X S hF fi_1_10 lf_X1_58 dX1_add_1 (fun x1 hF => ?_)
  refine lv_bipush (v := 48) X.1 X.2.1 dX1_add_4 (by decide) ?_
  refine lv_icmp_lt (tgt := 12) X.1 X.2.1 dX1_add_6 (by decide) (fun c2 => ?_) (fun c2 => ?_)
  · have hF := ab_pos c2 hF
    refine ab_aload_n X dX1_add_12 rfl (lv_at hl 0 rfl) ?_
    refine ab_getR X S hF fi_1_5 lf_X1_29 dX1_add_13 (fun x3 hF => ?_)
    refine ab_aload_n X dX1_add_16 rfl (lv_at hl 0 rfl) ?_
    refine ab_getI X S hF fi_1_10 lf_X1_58 dX1_add_17 (fun x4 hF => ?_)
    refine lv_iload_n X.1 X.2.1 dX1_add_20 rfl (lv_at hl 1 rfl) ?_
    refine ab_astI X S hF dX1_add_21 (fun h5 H1 locs1 hF S => ?_)
    refine ab_aload_n X dX1_add_22 rfl (lv_at hl 0 rfl) ?_
    refine ab_getR X S hF fi_1_6 lf_X1_33 dX1_add_23 (fun x6 hF => ?_)
    refine ab_aload_n X dX1_add_26 rfl (lv_at hl 0 rfl) ?_
    refine ab_getI X S hF fi_1_10 lf_X1_58 dX1_add_27 (fun x7 hF => ?_)
    refine lv_iload_n X.1 X.2.1 dX1_add_30 rfl (lv_at hl 2 rfl) ?_
    refine ab_astI X S hF dX1_add_31 (fun h8 H1 locs1 hF S => ?_)
    refine ab_aload_n X dX1_add_32 rfl (lv_at hl 0 rfl) ?_
    refine ab_getR X S hF fi_1_7 lf_X1_36 dX1_add_33 (fun x9 hF => ?_)
    refine ab_aload_n X dX1_add_36 rfl (lv_at hl 0 rfl) ?_
    refine ab_getI X S hF fi_1_10 lf_X1_58 dX1_add_37 (fun x10 hF => ?_)
    refine lv_iload_n X.1 X.2.1 dX1_add_40 rfl (lv_at hl 3 rfl) ?_
    refine ab_astI X S hF dX1_add_41 (fun h11 H1 locs1 hF S => ?_)
    refine ab_aload_n X dX1_add_42 rfl (lv_at hl 0 rfl) ?_
    refine ab_getR X S hF fi_1_8 lf_X1_39 dX1_add_43 (fun x12 hF => ?_)
    refine ab_aload_n X dX1_add_46 rfl (lv_at hl 0 rfl) ?_
    refine ab_getI X S hF fi_1_10 lf_X1_58 dX1_add_47 (fun x13 hF => ?_)
    refine lv_iload X.1 X.2.1 dX1_add_50 (lv_at hl 4 rfl) ?_
    refine ab_astI X S hF dX1_add_52 (fun h14 H1 locs1 hF S => ?_)
    refine ab_aload_n X dX1_add_53 rfl (lv_at hl 0 rfl) ?_
    refine ab_getR X S hF fi_1_9 lf_X1_42 dX1_add_54 (fun x15 hF => ?_)
    refine ab_aload_n X dX1_add_57 rfl (lv_at hl 0 rfl) ?_
    refine ab_getI X S hF fi_1_10 lf_X1_58 dX1_add_58 (fun x16 hF => ?_)
    refine lv_dload X.1 X.2.1 dX1_add_61 (lv_at hl 5 rfl) ?_
    refine ab_astD X S hF dX1_add_63 (fun h17 H1 locs1 hF S => ?_)
    refine ab_aload_n X dX1_add_64 rfl (lv_at hl 0 rfl) ?_
    refine lv_dup X.1 X.2.1 dX1_add_65 (by simp [ab_cat, ab_cI, ab_cJ, ab_cD, ab_cF]) ?_
    refine ab_getI X S hF fi_1_10 lf_X1_58 dX1_add_66 (fun x18 hF => ?_)
    refine lv_iconst (v := 1) X.1 X.2.1 dX1_add_69 (by decide) ?_
    refine lv_iadd X.1 X.2.1 dX1_add_70 ?_
    refine ab_putI X S hF fi_1_10 ci_1 (Or.inl rfl) rfl lf_X1_58 dX1_add_71 (fun h19 H1 locs1 hF S => ?_)
    refine ab_aload_n X dX1_add_74 rfl (lv_at hl 0 rfl) ?_
    refine ab_getI X S hF fi_1_10 lf_X1_58 dX1_add_75 (fun x20 hF => ?_)
    refine lv_iconst (v := 1) X.1 X.2.1 dX1_add_78 (by decide) ?_
    refine lv_isub X.1 X.2.1 dX1_add_79 ?_
    exact ab_iret X S hr hF dX1_add_80
  · have hF := ab_neg c2 hF
    refine lv_bipush (v := (-3)) X.1 X.2.1 dX1_add_9 (by decide) ?_
    exact ab_iret X S hr hF dX1_add_11
def f_X1_putSide_14  : Nat → Option Nat → Int32 → Hp → Option (Unit × Hp)
  | 0, _, _, _ => none
  | n + 1, v0, v3, h => (getI h v0 1 1).bind fun x1 =>
    if x1 ≤ v3 then
      some ((), h)
    else
      (getI h v0 1 12).bind fun x3 =>
      (getR h v0 1 11).bind fun x4 =>
      (aldI h x4 11 v3).bind fun x5 =>
      (putI h v0 1 12 (ab_max x3 (x5 + 1))).bind fun h6 =>
      f_X1_putSide_14 n v0 (v3 + 1) h6
set_option maxHeartbeats 4000000 in
set_option maxRecDepth 100000 in
theorem w_X1_putSide_14 {p : Program} {l : Launch} {e : Env} {s : State} {m : MethodId} {args : Array Value} {below : List Frame} {meth : Method} {c : Code} {D : va_G} {cA : Nat → ClassId} {sz : Nat}  {hh : Hp}  (X : ab_X p s m args meth c cX1_putSide 4 RX1 D cA sz) (hr : meth.sig.returnType = none)  (n : Nat) : ∀ (v0 : Option Nat) (v3 : Int32) (h : Hp) (H : Heap) (locs : List Loc) (ls : Array Slot), ab_H D cA sz h s H locs → lv_has ls 4 [(0, va_rf v0), (3, .int v3)] → f_X1_putSide_14 n v0 v3 h = some ((), hh) → W p l e (ab_rm 1 0 0) s m args below meth c H locs 0 0 (MQ below (ab_Q D cA sz none hh) args s 0 0 (fun q => sz ≤ q)) (F0 m 14 ls []) := by
  induction n with
  | zero => intro v0 v3 h H locs ls S hl hF; cases hF
  | succ n ih =>
    intro v0 v3 h H locs ls S hl hF
    rw [f_X1_putSide_14] at hF
    refine lv_iload_n X.1 X.2.1 dX1_putSide_14 rfl (lv_at hl 1 rfl) ?_
    refine ab_aload_n X dX1_putSide_15 rfl (lv_at hl 0 rfl) ?_
    refine ab_getI X S hF fi_1_1 lf_X1_15 dX1_putSide_16 (fun x1 hF => ?_)
    refine lv_icmp_ge (tgt := 47) X.1 X.2.1 dX1_putSide_19 (by decide) (fun c2 => ?_) (fun c2 => ?_)
    · have hF := ab_pos c2 hF
      exact ab_vret X S hr hF dX1_putSide_47
    · have hF := ab_neg c2 hF
      refine ab_aload_n X dX1_putSide_22 rfl (lv_at hl 0 rfl) ?_
      refine ab_aload_n X dX1_putSide_23 rfl (lv_at hl 0 rfl) ?_
      refine ab_getI X S hF fi_1_12 lf_X1_61 dX1_putSide_24 (fun x3 hF => ?_)
      refine ab_aload_n X dX1_putSide_27 rfl (lv_at hl 0 rfl) ?_
      refine ab_getR X S hF fi_1_11 lf_X1_55 dX1_putSide_28 (fun x4 hF => ?_)
      refine lv_iload_n X.1 X.2.1 dX1_putSide_31 rfl (lv_at hl 1 rfl) ?_
      refine ab_aldI X S hF dX1_putSide_32 (fun x5 hF => ?_)
      refine lv_iconst (v := 1) X.1 X.2.1 dX1_putSide_33 (by decide) ?_
      refine lv_iadd X.1 X.2.1 dX1_putSide_34 ?_
      refine ab_mmax X lm_X1_64 ⟨by decide, by decide⟩ hl.1 (by decide) (by simp [ab_cat, ab_cI, ab_cJ, ab_cD, ab_cF]) dX1_putSide_35 ?_
      refine ab_putI X S hF fi_1_12 ci_1 (Or.inl rfl) rfl lf_X1_61 dX1_putSide_38 (fun h6 H1 locs1 hF S => ?_)
      refine lv_iinc (v := v3 + 1) (lv' := [(3, .int (v3 + 1)), (0, va_rf v0)]) X.1 X.2.1 dX1_putSide_41 hl (k := 1) rfl (by rfl) (by decide) (by simp [ab_cat, ab_cI, ab_cJ, ab_cD, ab_cF]) (fun ls hl => ?_)
      refine lv_goto (tgt := 14) X.1 X.2.1 dX1_putSide_44 (by decide) ?_
      exact ih _ _ _ _ _ _ S (lv_sub hl [1, 0] rfl) hF
def f_X1_putSide (this : Nat) (p0 : Int32) (p1 : Int32) (h : Hp) : Option (Unit × Hp) :=
  (getR h (some this) 1 11).bind fun x1 =>
  (astI h x1 p0 p1).bind fun h2 =>
  (putI h2 (some this) 1 12 0).bind fun h3 =>
  f_X1_putSide_14 fuelN (some this) 0 h3
theorem mi_X1_putSide : ab_MI yX1_putSide cX1_putSide 4 none 2 := ⟨lc_yX1_putSide, lz_RX1, by decide, by decide, by decide +kernel⟩
set_option maxHeartbeats 4000000 in
set_option maxRecDepth 100000 in
theorem c_X1_putSide (l : Launch) (D : va_G) (cA : Nat → ClassId) (sz : Nat) {this : Nat} {p0 : Int32} {p1 : Int32} {h hh : Hp}  (hF : f_X1_putSide this p0 p1 h = some ((), hh)) : ab_C l D cA sz yX1_putSide cX1_putSide 4 none 1 0 0 [.ref this, .int p0, .int p1] h none hh := by
  refine Met.ofW (cc := cX1_putSide) (maxL := 4) (ret := none) (by decide) rfl ?_
  intro p e s m args below meth c s₁ B hml hv
  obtain ⟨rfl, hT, hR⟩ := hv
  have X : ab_X p s m _ meth c cX1_putSide 4 RX1 D cA sz := (ab_enter B hml hT hR).1
  have S := (ab_enter B hml hT hR).2
  have hr := B.returns
  obtain ⟨ls, hls, hl⟩ := ab_entry m [.ref this, .int p0, .int p1] 4 (lv := [(0, .ref this), (1, .int p0), (2, .int p1)]) (by simp [lg_sl, ab_cat, ab_cI, ab_cJ, ab_cD, ab_cF, ab_cA]) (by simp [lv_args, ab_cat, ab_cI, ab_cJ, ab_cD, ab_cF, ab_cA])
  rw [hls]
  have hl : lv_has ls 4 [(0, va_rf (some this)), (1, .int p0), (2, .int p1)] := hl
  unfold f_X1_putSide at hF
  show W p l e (ab_rm 1 0 0) s m _ below meth c s.heap [] 0 0 _ _
  refine ab_aload_n X dX1_putSide_0 rfl (lv_at hl 0 rfl) ?_
  refine ab_getR X S hF fi_1_11 lf_X1_55 dX1_putSide_1 (fun x1 hF => ?_)
  refine lv_iload_n X.1 X.2.1 dX1_putSide_4 rfl (lv_at hl 1 rfl) ?_
  refine lv_iload_n X.1 X.2.1 dX1_putSide_5 rfl (lv_at hl 2 rfl) ?_
  refine ab_astI X S hF dX1_putSide_6 (fun h2 H1 locs1 hF S => ?_)
  refine ab_aload_n X dX1_putSide_7 rfl (lv_at hl 0 rfl) ?_
  refine lv_iconst (v := 0) X.1 X.2.1 dX1_putSide_8 (by decide) ?_
  refine ab_putI X S hF fi_1_12 ci_1 (Or.inl rfl) rfl lf_X1_61 dX1_putSide_9 (fun h3 H1 locs1 hF S => ?_)
  refine lv_iconst (v := 0) X.1 X.2.1 dX1_putSide_12 (by decide) ?_
  refine lv_istore_n (i := 3) (lv' := [(3, .int 0), (0, va_rf (some this)), (1, .int p0), (2, .int p1)]) X.1 X.2.1 dX1_putSide_13 rfl hl (by decide) (by simp [ab_cat, ab_cI, ab_cJ, ab_cD, ab_cF]) (fun ls hl => ?_)
  exact w_X1_putSide_14 X hr  fuelN _ _ _ _ _ _ S (lv_sub hl [1, 0] rfl) hF
def f_X1_readSides_51 (k_2 : Option Nat → Option Nat → Int32 → Hp → Option (Unit × Hp)) (v0 : Option Nat) (v1 : Option Nat) (v2 : Int32) (h : Hp) : Option (Unit × Hp) :=
  k_2 v0 v1 (v2 + 1) h
set_option maxHeartbeats 4000000 in
set_option maxRecDepth 100000 in
theorem w_X1_readSides_51 {p : Program} {l : Launch} {e : Env} {s : State} {m : MethodId} {args : Array Value} {below : List Frame} {meth : Method} {c : Code} {D : va_G} {cA : Nat → ClassId} {sz : Nat}  {hh : Hp} {k_2 : Option Nat → Option Nat → Int32 → Hp → Option (Unit × Hp)} (X : ab_X p s m args meth c cX1_readSides 4 RX1 D cA sz) (hr : meth.sig.returnType = none) (hk_2 : ∀ (v0 : Option Nat) (v1 : Option Nat) (v2 : Int32) (h : Hp) (H : Heap) (locs : List Loc) (ls : Array Slot), ab_H D cA sz h s H locs → lv_has ls 4 [(0, va_rf v0), (1, va_rf v1), (2, .int v2)] → k_2 v0 v1 v2 h = some ((), hh) → W p l e (ab_rm 0 0 0) s m args below meth c H locs 0 0 (MQ below (ab_Q D cA sz none hh) args s 0 0 (fun q => sz ≤ q)) (F0 m 2 ls [])) {H : Heap} {locs : List Loc} {ls : Array Slot} {v0 : Option Nat} {v1 : Option Nat} {v2 : Int32} {h : Hp} (S : ab_H D cA sz h s H locs) (hl : lv_has ls 4 [(0, va_rf v0), (1, va_rf v1), (2, .int v2)]) (hF : f_X1_readSides_51 k_2 v0 v1 v2 h = some ((), hh)) : W p l e (ab_rm 0 0 0) s m args below meth c H locs 0 0 (MQ below (ab_Q D cA sz none hh) args s 0 0 (fun q => sz ≤ q)) (F0 m 51 ls []) := by
  unfold f_X1_readSides_51 at hF
  refine lv_iinc (v := v2 + 1) (lv' := [(2, .int (v2 + 1)), (0, va_rf v0), (1, va_rf v1)]) X.1 X.2.1 dX1_readSides_51 hl (k := 2) rfl (by rfl) (by decide) (by simp [ab_cat, ab_cI, ab_cJ, ab_cD, ab_cF]) (fun ls hl => ?_)
  refine lv_goto (tgt := 2) X.1 X.2.1 dX1_readSides_54 (by decide) ?_
  exact hk_2 _ _ _ _ _ _ _ S (lv_sub hl [1, 2, 0] rfl) hF
def f_X1_readSides_2  : Nat → Option Nat → Option Nat → Int32 → Hp → Option (Unit × Hp)
  | 0, _, _, _, _ => none
  | n + 1, v0, v1, v2, h => (getI h v0 1 1).bind fun x1 =>
    if x1 ≤ v2 then
      some ((), h)
    else
      (getR h v0 1 11).bind fun x3 =>
      (aldI h x3 11 v2).bind fun x4 =>
      if x4 < 0 then
        f_X1_readSides_51 (f_X1_readSides_2 n) v0 v1 v2 h
      else
        (getR h v1 3 0).bind fun x6 =>
        (getR h v0 1 13).bind fun x7 =>
        (getR h x7 3 0).bind fun x8 =>
        (aldD h x8 x4).bind fun x9 =>
        (astD h x6 v2 x9).bind fun h10 =>
        (getR h10 v1 3 1).bind fun x11 =>
        (getR h10 v0 1 13).bind fun x12 =>
        (getR h10 x12 3 1).bind fun x13 =>
        (aldI h10 x13 12 x4).bind fun x14 =>
        (astZ h10 x11 v2 x14).bind fun h15 =>
        f_X1_readSides_51 (f_X1_readSides_2 n) v0 v1 v2 h15
set_option maxHeartbeats 4000000 in
set_option maxRecDepth 100000 in
theorem w_X1_readSides_2 {p : Program} {l : Launch} {e : Env} {s : State} {m : MethodId} {args : Array Value} {below : List Frame} {meth : Method} {c : Code} {D : va_G} {cA : Nat → ClassId} {sz : Nat}  {hh : Hp}  (X : ab_X p s m args meth c cX1_readSides 4 RX1 D cA sz) (hr : meth.sig.returnType = none)  (n : Nat) : ∀ (v0 : Option Nat) (v1 : Option Nat) (v2 : Int32) (h : Hp) (H : Heap) (locs : List Loc) (ls : Array Slot), ab_H D cA sz h s H locs → lv_has ls 4 [(0, va_rf v0), (1, va_rf v1), (2, .int v2)] → f_X1_readSides_2 n v0 v1 v2 h = some ((), hh) → W p l e (ab_rm 0 0 0) s m args below meth c H locs 0 0 (MQ below (ab_Q D cA sz none hh) args s 0 0 (fun q => sz ≤ q)) (F0 m 2 ls []) := by
  induction n with
  | zero => intro v0 v1 v2 h H locs ls S hl hF; cases hF
  | succ n ih =>
    intro v0 v1 v2 h H locs ls S hl hF
    rw [f_X1_readSides_2] at hF
    refine lv_iload_n X.1 X.2.1 dX1_readSides_2 rfl (lv_at hl 2 rfl) ?_
    refine ab_aload_n X dX1_readSides_3 rfl (lv_at hl 0 rfl) ?_
    refine ab_getI X S hF fi_1_1 lf_X1_15 dX1_readSides_4 (fun x1 hF => ?_)
    refine lv_icmp_ge (tgt := 57) X.1 X.2.1 dX1_readSides_7 (by decide) (fun c2 => ?_) (fun c2 => ?_)
    · have hF := ab_pos c2 hF
      exact ab_vret X S hr hF dX1_readSides_57
    · have hF := ab_neg c2 hF
      refine ab_aload_n X dX1_readSides_10 rfl (lv_at hl 0 rfl) ?_
      refine ab_getR X S hF fi_1_11 lf_X1_55 dX1_readSides_11 (fun x3 hF => ?_)
      refine lv_iload_n X.1 X.2.1 dX1_readSides_14 rfl (lv_at hl 2 rfl) ?_
      refine ab_aldI X S hF dX1_readSides_15 (fun x4 hF => ?_)
      refine lv_istore_n (i := 3) (lv' := [(3, .int x4), (0, va_rf v0), (1, va_rf v1), (2, .int v2)]) X.1 X.2.1 dX1_readSides_16 rfl hl (by decide) (by simp [ab_cat, ab_cI, ab_cJ, ab_cD, ab_cF]) (fun ls hl => ?_)
      refine lv_iload_n X.1 X.2.1 dX1_readSides_17 rfl (lv_at hl 0 rfl) ?_
      refine lv_if_lt (tgt := 51) X.1 X.2.1 dX1_readSides_18 (by decide) (fun c5 => ?_) (fun c5 => ?_)
      · have hF := ab_pos c5 hF
        exact w_X1_readSides_51 X hr ih S (lv_sub hl [1, 2, 3] rfl) hF
      · have hF := ab_neg c5 hF
        refine ab_aload_n X dX1_readSides_21 rfl (lv_at hl 2 rfl) ?_
        refine ab_getR X S hF fi_3_0 lf_X1_87 dX1_readSides_22 (fun x6 hF => ?_)
        refine lv_iload_n X.1 X.2.1 dX1_readSides_25 rfl (lv_at hl 3 rfl) ?_
        refine ab_aload_n X dX1_readSides_26 rfl (lv_at hl 1 rfl) ?_
        refine ab_getR X S hF fi_1_13 lf_X1_51 dX1_readSides_27 (fun x7 hF => ?_)
        refine ab_getR X S hF fi_3_0 lf_X1_87 dX1_readSides_30 (fun x8 hF => ?_)
        refine lv_iload_n X.1 X.2.1 dX1_readSides_33 rfl (lv_at hl 0 rfl) ?_
        refine ab_aldD X S hF dX1_readSides_34 (fun x9 hF => ?_)
        refine ab_astD X S hF dX1_readSides_35 (fun h10 H1 locs1 hF S => ?_)
        refine ab_aload_n X dX1_readSides_36 rfl (lv_at hl 2 rfl) ?_
        refine ab_getR X S hF fi_3_1 lf_X1_89 dX1_readSides_37 (fun x11 hF => ?_)
        refine lv_iload_n X.1 X.2.1 dX1_readSides_40 rfl (lv_at hl 3 rfl) ?_
        refine ab_aload_n X dX1_readSides_41 rfl (lv_at hl 1 rfl) ?_
        refine ab_getR X S hF fi_1_13 lf_X1_51 dX1_readSides_42 (fun x12 hF => ?_)
        refine ab_getR X S hF fi_3_1 lf_X1_89 dX1_readSides_45 (fun x13 hF => ?_)
        refine lv_iload_n X.1 X.2.1 dX1_readSides_48 rfl (lv_at hl 0 rfl) ?_
        refine ab_aldZ X S hF dX1_readSides_49 (fun x14 hF => ?_)
        refine ab_astZ X S hF dX1_readSides_50 (fun h15 H1 locs1 hF S => ?_)
        exact w_X1_readSides_51 X hr ih S (lv_sub hl [1, 2, 3] rfl) hF
def f_X1_readSides (this : Nat) (p0 : Option Nat) (h : Hp) : Option (Unit × Hp) :=
  f_X1_readSides_2 fuelN (some this) p0 0 h
theorem mi_X1_readSides : ab_MI yX1_readSides cX1_readSides 4 none 1 := ⟨lc_yX1_readSides, lz_RX1, by decide, by decide, by decide +kernel⟩
set_option maxHeartbeats 4000000 in
set_option maxRecDepth 100000 in
theorem c_X1_readSides (l : Launch) (D : va_G) (cA : Nat → ClassId) (sz : Nat) {this : Nat} {p0 : Option Nat} {h hh : Hp}  (hF : f_X1_readSides this p0 h = some ((), hh)) : ab_C l D cA sz yX1_readSides cX1_readSides 4 none 0 0 0 [.ref this, va_rf p0] h none hh := by
  refine Met.ofW (cc := cX1_readSides) (maxL := 4) (ret := none) (by decide) rfl ?_
  intro p e s m args below meth c s₁ B hml hv
  obtain ⟨rfl, hT, hR⟩ := hv
  have X : ab_X p s m _ meth c cX1_readSides 4 RX1 D cA sz := (ab_enter B hml hT hR).1
  have S := (ab_enter B hml hT hR).2
  have hr := B.returns
  obtain ⟨ls, hls, hl⟩ := ab_entry m [.ref this, va_rf p0] 4 (lv := [(0, .ref this), (1, va_rf p0)]) (by simp [lg_sl, ab_cat, ab_cI, ab_cJ, ab_cD, ab_cF, ab_cA]) (by simp [lv_args, ab_cat, ab_cI, ab_cJ, ab_cD, ab_cF, ab_cA])
  rw [hls]
  have hl : lv_has ls 4 [(0, va_rf (some this)), (1, va_rf p0)] := hl
  unfold f_X1_readSides at hF
  show W p l e (ab_rm 0 0 0) s m _ below meth c s.heap [] 0 0 _ _
  refine lv_iconst (v := 0) X.1 X.2.1 dX1_readSides_0 (by decide) ?_
  refine lv_istore_n (i := 2) (lv' := [(2, .int 0), (0, va_rf (some this)), (1, va_rf p0)]) X.1 X.2.1 dX1_readSides_1 rfl hl (by decide) (by simp [ab_cat, ab_cI, ab_cJ, ab_cD, ab_cF]) (fun ls hl => ?_)
  exact w_X1_readSides_2 X hr  fuelN _ _ _ _ _ _ _ S (lv_sub hl [1, 2, 0] rfl) hF
def f_X1_signOf_43  (u0 : Int32) (h : Hp) : Option (Int32 × Hp) :=
  some (u0, h)
set_option maxHeartbeats 4000000 in
set_option maxRecDepth 100000 in
theorem w_X1_signOf_43 {p : Program} {l : Launch} {e : Env} {s : State} {m : MethodId} {args : Array Value} {below : List Frame} {meth : Method} {c : Code} {D : va_G} {cA : Nat → ClassId} {sz : Nat} {rr : Int32} {hh : Hp}  (X : ab_X p s m args meth c cX1_signOf 4 RX1 D cA sz) (hr : meth.sig.returnType = (some .int))  {H : Heap} {locs : List Loc} {ls : Array Slot} {u0 : Int32} {h : Hp} (S : ab_H D cA sz h s H locs) (hl : lv_has ls 4 []) (hF : f_X1_signOf_43 u0 h = some (rr, hh)) : W p l e (ab_rm 0 0 0) s m args below meth c H locs 0 0 (MQ below (ab_Q D cA sz (some (.int rr)) hh) args s 0 0 (fun q => sz ≤ q)) (F0 m 43 ls [.int u0]) := by
  unfold f_X1_signOf_43 at hF
  exact ab_iret X S hr hF dX1_signOf_43
def f_X1_signOf (this : Nat) (p0 : Int32) (h : Hp) : Option (Int32 × Hp) :=
  (getR h (some this) 1 13).bind fun x1 =>
  (getR h x1 3 1).bind fun x2 =>
  (aldI h x2 12 p0).bind fun x3 =>
  if x3 = 0 then
    (getR h (some this) 1 13).bind fun x5 =>
    (getR h x5 3 0).bind fun x6 =>
    (aldD h x6 p0).bind fun x7 =>
    if 0 ≤ (Op.cmpValue (FP.dcmp x7 FP.dconst0) CmpOp.g) then
      if (Op.cmpValue (FP.dcmp x7 FP.dconst0) CmpOp.l) ≤ 0 then
        f_X1_signOf_43 0 h
      else
        f_X1_signOf_43 1 h
    else
      some ((-1), h)
  else
    some (2, h)
theorem mi_X1_signOf : ab_MI yX1_signOf cX1_signOf 4 (some .int) 1 := ⟨lc_yX1_signOf, lz_RX1, by decide, by decide, by decide +kernel⟩
set_option maxHeartbeats 4000000 in
set_option maxRecDepth 100000 in
theorem c_X1_signOf (l : Launch) (D : va_G) (cA : Nat → ClassId) (sz : Nat) {this : Nat} {p0 : Int32} {h hh : Hp} {rr : Int32} (hF : f_X1_signOf this p0 h = some (rr, hh)) : ab_C l D cA sz yX1_signOf cX1_signOf 4 (some .int) 0 0 0 [.ref this, .int p0] h (some (.int rr)) hh := by
  refine Met.ofW (cc := cX1_signOf) (maxL := 4) (ret := (some .int)) (by decide) rfl ?_
  intro p e s m args below meth c s₁ B hml hv
  obtain ⟨rfl, hT, hR⟩ := hv
  have X : ab_X p s m _ meth c cX1_signOf 4 RX1 D cA sz := (ab_enter B hml hT hR).1
  have S := (ab_enter B hml hT hR).2
  have hr := B.returns
  obtain ⟨ls, hls, hl⟩ := ab_entry m [.ref this, .int p0] 4 (lv := [(0, .ref this), (1, .int p0)]) (by simp [lg_sl, ab_cat, ab_cI, ab_cJ, ab_cD, ab_cF, ab_cA]) (by simp [lv_args, ab_cat, ab_cI, ab_cJ, ab_cD, ab_cF, ab_cA])
  rw [hls]
  have hl : lv_has ls 4 [(0, va_rf (some this)), (1, .int p0)] := hl
  unfold f_X1_signOf at hF
  show W p l e (ab_rm 0 0 0) s m _ below meth c s.heap [] 0 0 _ _
  refine ab_aload_n X dX1_signOf_0 rfl (lv_at hl 0 rfl) ?_
  refine ab_getR X S hF fi_1_13 lf_X1_51 dX1_signOf_1 (fun x1 hF => ?_)
  refine ab_getR X S hF fi_3_1 lf_X1_89 dX1_signOf_4 (fun x2 hF => ?_)
  refine lv_iload_n X.1 X.2.1 dX1_signOf_7 rfl (lv_at hl 1 rfl) ?_
  refine ab_aldZ X S hF dX1_signOf_8 (fun x3 hF => ?_)
  refine lv_if_eq (tgt := 14) X.1 X.2.1 dX1_signOf_9 (by decide) (fun c4 => ?_) (fun c4 => ?_)
  · have hF := ab_pos c4 hF
    refine ab_aload_n X dX1_signOf_14 rfl (lv_at hl 0 rfl) ?_
    refine ab_getR X S hF fi_1_13 lf_X1_51 dX1_signOf_15 (fun x5 hF => ?_)
    refine ab_getR X S hF fi_3_0 lf_X1_87 dX1_signOf_18 (fun x6 hF => ?_)
    refine lv_iload_n X.1 X.2.1 dX1_signOf_21 rfl (lv_at hl 1 rfl) ?_
    refine ab_aldD X S hF dX1_signOf_22 (fun x7 hF => ?_)
    refine lv_dstore_n (i := 2) (lv' := [(2, .double x7), (0, va_rf (some this)), (1, .int p0)]) X.1 X.2.1 dX1_signOf_23 rfl hl (by decide) (by simp [ab_cat, ab_cI, ab_cJ, ab_cD, ab_cF]) (fun ls hl => ?_)
    refine lv_dload_n X.1 X.2.1 dX1_signOf_24 rfl (lv_at hl 0 rfl) ?_
    refine lv_dconst0 X.1 X.2.1 dX1_signOf_25 ?_
    refine lv_dcmp X.1 X.2.1 dX1_signOf_26 ?_
    refine lv_if_ge (tgt := 32) X.1 X.2.1 dX1_signOf_27 (by decide) (fun c8 => ?_) (fun c8 => ?_)
    · have hF := ab_pos c8 hF
      refine lv_dload_n X.1 X.2.1 dX1_signOf_32 rfl (lv_at hl 0 rfl) ?_
      refine lv_dconst0 X.1 X.2.1 dX1_signOf_33 ?_
      refine lv_dcmp X.1 X.2.1 dX1_signOf_34 ?_
      refine lv_if_le (tgt := 42) X.1 X.2.1 dX1_signOf_35 (by decide) (fun c9 => ?_) (fun c9 => ?_)
      · have hF := ab_pos c9 hF
        refine lv_iconst (v := 0) X.1 X.2.1 dX1_signOf_42 (by decide) ?_
        exact w_X1_signOf_43 X hr  S (lv_sub hl [] rfl) hF
      · have hF := ab_neg c9 hF
        refine lv_iconst (v := 1) X.1 X.2.1 dX1_signOf_38 (by decide) ?_
        refine lv_goto (tgt := 43) X.1 X.2.1 dX1_signOf_39 (by decide) ?_
        exact w_X1_signOf_43 X hr  S (lv_sub hl [] rfl) hF
    · have hF := ab_neg c8 hF
      refine lv_iconst (v := (-1)) X.1 X.2.1 dX1_signOf_30 (by decide) ?_
      exact ab_iret X S hr hF dX1_signOf_31
  · have hF := ab_neg c4 hF
    refine lv_iconst (v := 2) X.1 X.2.1 dX1_signOf_12 (by decide) ?_
    exact ab_iret X S hr hF dX1_signOf_13
def f_X2_init (this : Nat) (h : Hp) : Option (Unit × Hp) :=
  (putD h (some this) 2 0 9218868437227405311).bind fun h1 =>
  some ((), h1)
theorem mi_X2_init : ab_MI yX2_init cX2_init 1 none 0 := ⟨lc_yX2_init, lz_RX2, by decide, by decide, by decide +kernel⟩
set_option maxHeartbeats 4000000 in
set_option maxRecDepth 100000 in
theorem c_X2_init (l : Launch) (D : va_G) (cA : Nat → ClassId) (sz : Nat) {this : Nat} {h hh : Hp}  (hF : f_X2_init this h = some ((), hh)) : ab_C l D cA sz yX2_init cX2_init 1 none 1 0 0 [.ref this] h none hh := by
  refine Met.ofW (cc := cX2_init) (maxL := 1) (ret := none) (by decide) rfl ?_
  intro p e s m args below meth c s₁ B hml hv
  obtain ⟨rfl, hT, hR⟩ := hv
  have X : ab_X p s m _ meth c cX2_init 1 RX2 D cA sz := (ab_enter B hml hT hR).1
  have S := (ab_enter B hml hT hR).2
  have hr := B.returns
  obtain ⟨ls, hls, hl⟩ := ab_entry m [.ref this] 1 (lv := [(0, .ref this)]) (by simp [lg_sl, ab_cat, ab_cI, ab_cJ, ab_cD, ab_cF, ab_cA]) (by simp [lv_args, ab_cat, ab_cI, ab_cJ, ab_cD, ab_cF, ab_cA])
  rw [hls]
  have hl : lv_has ls 1 [(0, va_rf (some this))] := hl
  have hin : meth.name = "<init>" := (name_of_methodNamed B.named B.method).1
  unfold f_X2_init at hF
  show W p l e (ab_rm 1 0 0) s m _ below meth c s.heap [] 0 0 _ _
  refine ab_aload_n X dX2_init_0 rfl (lv_at hl 0 rfl) ?_
  refine ab_objInit X lm_X2_1 hl.1 (by decide) (by simp [ab_cat, ab_cI, ab_cJ, ab_cD, ab_cF]) dX2_init_1 ?_
  refine ab_aload_n X dX2_init_4 rfl (lv_at hl 0 rfl) ?_
  refine lv_ldc2d (v := 9218868437227405311) X.1 X.2.1 X.2.2.2.1 (X.2.2.2.2.1 _ ld_X2_7) dX2_init_5 ?_
  refine ab_putD X S hF fi_2_0 ci_2 (Or.inr ⟨rfl, hin, rfl⟩) rfl lf_X2_9 dX2_init_8 (fun h1 H1 locs1 hF S => ?_)
  exact ab_vret X S hr hF dX2_init_11
def f_X2_begin (this : Nat) (h : Hp) : Option (Unit × Hp) :=
  (putZ h (some this) 2 1 0).bind fun h1 =>
  some ((), h1)
theorem mi_X2_begin : ab_MI yX2_begin cX2_begin 1 none 0 := ⟨lc_yX2_begin, lz_RX2, by decide, by decide, by decide +kernel⟩
set_option maxHeartbeats 4000000 in
set_option maxRecDepth 100000 in
theorem c_X2_begin (l : Launch) (D : va_G) (cA : Nat → ClassId) (sz : Nat) {this : Nat} {h hh : Hp}  (hF : f_X2_begin this h = some ((), hh)) : ab_C l D cA sz yX2_begin cX2_begin 1 none 0 0 0 [.ref this] h none hh := by
  refine Met.ofW (cc := cX2_begin) (maxL := 1) (ret := none) (by decide) rfl ?_
  intro p e s m args below meth c s₁ B hml hv
  obtain ⟨rfl, hT, hR⟩ := hv
  have X : ab_X p s m _ meth c cX2_begin 1 RX2 D cA sz := (ab_enter B hml hT hR).1
  have S := (ab_enter B hml hT hR).2
  have hr := B.returns
  obtain ⟨ls, hls, hl⟩ := ab_entry m [.ref this] 1 (lv := [(0, .ref this)]) (by simp [lg_sl, ab_cat, ab_cI, ab_cJ, ab_cD, ab_cF, ab_cA]) (by simp [lv_args, ab_cat, ab_cI, ab_cJ, ab_cD, ab_cF, ab_cA])
  rw [hls]
  have hl : lv_has ls 1 [(0, va_rf (some this))] := hl
  unfold f_X2_begin at hF
  show W p l e (ab_rm 0 0 0) s m _ below meth c s.heap [] 0 0 _ _
  refine ab_aload_n X dX2_begin_0 rfl (lv_at hl 0 rfl) ?_
  refine lv_iconst (v := 0) X.1 X.2.1 dX2_begin_1 (by decide) ?_
  refine ab_putZ X S hF fi_2_1 ci_2 (Or.inl rfl) rfl lf_X2_15 dX2_begin_2 (fun h1 H1 locs1 hF S => ?_)
  exact ab_vret X S hr hF dX2_begin_5
def f_X2_read_22  (v1 : Option Nat) (v2 : Int32) (u0 : Int32) (u1 : Option Nat) (h : Hp) : Option (UInt64 × Hp) :=
  (putZ h u1 2 1 u0).bind fun h1 =>
  (getR h1 v1 3 0).bind fun x2 =>
  (aldD h1 x2 v2).bind fun x3 =>
  some (x3, h1)
set_option maxHeartbeats 4000000 in
set_option maxRecDepth 100000 in
theorem w_X2_read_22 {p : Program} {l : Launch} {e : Env} {s : State} {m : MethodId} {args : Array Value} {below : List Frame} {meth : Method} {c : Code} {D : va_G} {cA : Nat → ClassId} {sz : Nat} {rr : UInt64} {hh : Hp}  (X : ab_X p s m args meth c cX2_read 3 RX2 D cA sz) (hr : meth.sig.returnType = (some .double))  {H : Heap} {locs : List Loc} {ls : Array Slot} {v1 : Option Nat} {v2 : Int32} {u0 : Int32} {u1 : Option Nat} {h : Hp} (S : ab_H D cA sz h s H locs) (hl : lv_has ls 3 [(1, va_rf v1), (2, .int v2)]) (hF : f_X2_read_22 v1 v2 u0 u1 h = some (rr, hh)) : W p l e (ab_rm 0 0 0) s m args below meth c H locs 0 0 (MQ below (ab_Q D cA sz (some (.double rr)) hh) args s 0 0 (fun q => sz ≤ q)) (F0 m 22 ls [.int u0, va_rf u1]) := by
  unfold f_X2_read_22 at hF
  refine ab_putZ X S hF fi_2_1 ci_2 (Or.inl rfl) rfl lf_X2_15 dX2_read_22 (fun h1 H1 locs1 hF S => ?_)
  refine ab_aload_n X dX2_read_25 rfl (lv_at hl 0 rfl) ?_
  refine ab_getR X S hF fi_3_0 lf_X2_24 dX2_read_26 (fun x2 hF => ?_)
  refine lv_iload_n X.1 X.2.1 dX2_read_29 rfl (lv_at hl 1 rfl) ?_
  refine ab_aldD X S hF dX2_read_30 (fun x3 hF => ?_)
  exact ab_dret X S hr hF dX2_read_31
def f_X2_read_17  (v1 : Option Nat) (v2 : Int32) (u0 : Option Nat) (h : Hp) : Option (UInt64 × Hp) :=
  f_X2_read_22 v1 v2 1 u0 h
set_option maxHeartbeats 4000000 in
set_option maxRecDepth 100000 in
theorem w_X2_read_17 {p : Program} {l : Launch} {e : Env} {s : State} {m : MethodId} {args : Array Value} {below : List Frame} {meth : Method} {c : Code} {D : va_G} {cA : Nat → ClassId} {sz : Nat} {rr : UInt64} {hh : Hp}  (X : ab_X p s m args meth c cX2_read 3 RX2 D cA sz) (hr : meth.sig.returnType = (some .double))  {H : Heap} {locs : List Loc} {ls : Array Slot} {v1 : Option Nat} {v2 : Int32} {u0 : Option Nat} {h : Hp} (S : ab_H D cA sz h s H locs) (hl : lv_has ls 3 [(1, va_rf v1), (2, .int v2)]) (hF : f_X2_read_17 v1 v2 u0 h = some (rr, hh)) : W p l e (ab_rm 0 0 0) s m args below meth c H locs 0 0 (MQ below (ab_Q D cA sz (some (.double rr)) hh) args s 0 0 (fun q => sz ≤ q)) (F0 m 17 ls [va_rf u0]) := by
  unfold f_X2_read_17 at hF
  refine lv_iconst (v := 1) X.1 X.2.1 dX2_read_17 (by decide) ?_
  refine lv_goto (tgt := 22) X.1 X.2.1 dX2_read_18 (by decide) ?_
  exact w_X2_read_22 X hr  S (lv_sub hl [0, 1] rfl) hF
def f_X2_read (this : Nat) (p0 : Option Nat) (p1 : Int32) (h : Hp) : Option (UInt64 × Hp) :=
  (getI h (some this) 2 1).bind fun x1 =>
  if ¬ x1 = 0 then
    f_X2_read_17 p0 p1 (some this) h
  else
    (getR h p0 3 1).bind fun x3 =>
    (aldI h x3 12 p1).bind fun x4 =>
    if x4 = 0 then
      f_X2_read_22 p0 p1 0 (some this) h
    else
      f_X2_read_17 p0 p1 (some this) h
theorem mi_X2_read : ab_MI yX2_read cX2_read 3 (some .double) 2 := ⟨lc_yX2_read, lz_RX2, by decide, by decide, by decide +kernel⟩
set_option maxHeartbeats 4000000 in
set_option maxRecDepth 100000 in
theorem c_X2_read (l : Launch) (D : va_G) (cA : Nat → ClassId) (sz : Nat) {this : Nat} {p0 : Option Nat} {p1 : Int32} {h hh : Hp} {rr : UInt64} (hF : f_X2_read this p0 p1 h = some (rr, hh)) : ab_C l D cA sz yX2_read cX2_read 3 (some .double) 0 0 0 [.ref this, va_rf p0, .int p1] h (some (.double rr)) hh := by
  refine Met.ofW (cc := cX2_read) (maxL := 3) (ret := (some .double)) (by decide) rfl ?_
  intro p e s m args below meth c s₁ B hml hv
  obtain ⟨rfl, hT, hR⟩ := hv
  have X : ab_X p s m _ meth c cX2_read 3 RX2 D cA sz := (ab_enter B hml hT hR).1
  have S := (ab_enter B hml hT hR).2
  have hr := B.returns
  obtain ⟨ls, hls, hl⟩ := ab_entry m [.ref this, va_rf p0, .int p1] 3 (lv := [(0, .ref this), (1, va_rf p0), (2, .int p1)]) (by simp [lg_sl, ab_cat, ab_cI, ab_cJ, ab_cD, ab_cF, ab_cA]) (by simp [lv_args, ab_cat, ab_cI, ab_cJ, ab_cD, ab_cF, ab_cA])
  rw [hls]
  have hl : lv_has ls 3 [(0, va_rf (some this)), (1, va_rf p0), (2, .int p1)] := hl
  unfold f_X2_read at hF
  show W p l e (ab_rm 0 0 0) s m _ below meth c s.heap [] 0 0 _ _
  refine ab_aload_n X dX2_read_0 rfl (lv_at hl 0 rfl) ?_
  refine ab_aload_n X dX2_read_1 rfl (lv_at hl 0 rfl) ?_
  refine ab_getI X S hF fi_2_1 lf_X2_15 dX2_read_2 (fun x1 hF => ?_)
  refine lv_if_ne (tgt := 17) X.1 X.2.1 dX2_read_5 (by decide) (fun c2 => ?_) (fun c2 => ?_)
  · have hF := ab_pos c2 hF
    exact w_X2_read_17 X hr  S (lv_sub hl [1, 2] rfl) hF
  · have hF := ab_neg (fun q => q c2) hF
    refine ab_aload_n X dX2_read_8 rfl (lv_at hl 1 rfl) ?_
    refine ab_getR X S hF fi_3_1 lf_X2_19 dX2_read_9 (fun x3 hF => ?_)
    refine lv_iload_n X.1 X.2.1 dX2_read_12 rfl (lv_at hl 2 rfl) ?_
    refine ab_aldZ X S hF dX2_read_13 (fun x4 hF => ?_)
    refine lv_if_eq (tgt := 21) X.1 X.2.1 dX2_read_14 (by decide) (fun c5 => ?_) (fun c5 => ?_)
    · have hF := ab_pos c5 hF
      refine lv_iconst (v := 0) X.1 X.2.1 dX2_read_21 (by decide) ?_
      exact w_X2_read_22 X hr  S (lv_sub hl [1, 2] rfl) hF
    · have hF := ab_neg c5 hF
      exact w_X2_read_17 X hr  S (lv_sub hl [1, 2] rfl) hF
