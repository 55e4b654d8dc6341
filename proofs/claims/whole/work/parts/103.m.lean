def f_X8_init (this : Nat) (h : Hp) : Option (Unit × Hp) :=
  newo h 2 fun q2 h1 =>
  bnd (f_X2_init q2 h1) fun _ h4 =>
  (putR h4 (some this) 8 0 (some q2)).bind fun h6 =>
  newo h6 7 fun q8 h7 =>
  bnd (f_X7_init q8 h7) fun _ h10 =>
  (putR h10 (some this) 8 1 (some q8)).bind fun h12 =>
  bnd (newa h12 13 8) fun x14 h13 =>
  (putR h13 (some this) 8 2 x14).bind fun h15 =>
  bnd (newa h15 16 8) fun x17 h16 =>
  (putR h16 (some this) 8 4 x17).bind fun h18 =>
  bnd (newa h18 15 4) fun x20 h19 =>
  (putR h19 (some this) 8 6 x20).bind fun h21 =>
  bnd (newa h21 15 5) fun x23 h22 =>
  (putR h22 (some this) 8 8 x23).bind fun h24 =>
  newo h24 6 fun q26 h25 =>
  (getR h25 (some this) 8 0).bind fun x27 =>
  bnd (f_X6_init q26 x27 h25) fun _ h29 =>
  (putR h29 (some this) 8 9 (some q26)).bind fun h31 =>
  newo h31 6 fun q33 h32 =>
  (getR h32 (some this) 8 0).bind fun x34 =>
  bnd (f_X6_init q33 x34 h32) fun _ h36 =>
  (putR h36 (some this) 8 10 (some q33)).bind fun h38 =>
  some ((), h38)
theorem mi_X8_init : ab_MI yX8_init cX8_init 1 none 0 := ⟨lc_yX8_init, lz_RX8, by decide, by decide, by decide +kernel⟩
set_option maxHeartbeats 4000000 in
set_option maxRecDepth 100000 in
theorem c_X8_init (l : Launch) (D : va_G) (cA : Nat → ClassId) (sz : Nat) {this : Nat} {h hh : Hp}  (hF : f_X8_init this h = some ((), hh)) : ab_C l D cA sz yX8_init cX8_init 1 none 3 71 47071 [.ref this] h none hh := by
  refine Met.ofW (cc := cX8_init) (maxL := 1) (ret := none) (by decide) rfl ?_
  intro p e s m args below meth c s₁ B hml hv
  obtain ⟨rfl, hT, hR⟩ := hv
  have X : ab_X p s m _ meth c cX8_init 1 RX8 D cA sz := (ab_enter B hml hT hR).1
  have S := (ab_enter B hml hT hR).2
  have hr := B.returns
  obtain ⟨ls, hls, hl⟩ := ab_entry m [.ref this] 1 (lv := [(0, .ref this)]) (by simp [lg_sl, ab_cat, ab_cI, ab_cJ, ab_cD, ab_cF, ab_cA]) (by simp [lv_args, ab_cat, ab_cI, ab_cJ, ab_cD, ab_cF, ab_cA])
  rw [hls]
  have hl : lv_has ls 1 [(0, va_rf (some this))] := hl
  have hin : meth.name = "<init>" := (name_of_methodNamed B.named B.method).1
  unfold f_X8_init at hF
  show W p l e (ab_rm 3 71 47071) s m _ below meth c s.heap [] 0 0 _ _
  refine ab_aload_n X dX8_init_0 rfl (lv_at hl 0 rfl) ?_
  refine ab_objInit X lm_X8_1 hl.1 (by decide) (by simp [ab_cat, ab_cI, ab_cJ, ab_cD, ab_cF]) dX8_init_1 ?_
  refine ab_aload_n X dX8_init_4 rfl (lv_at hl 0 rfl) ?_
  refine ab_newx X S hF fi_2_0 ci_2 df_2 lk_X8_7 ln_RX2_2 lz_RX2 (by decide) (by decide) dX8_init_5 (fun q2 h1 H1 hF S => ?_)
  refine lv_dup X.1 X.2.1 dX8_init_8 (by simp [ab_cat, ab_cI, ab_cJ, ab_cD, ab_cF]) ?_
  obtain ⟨x3, h4, e5, hF⟩ := bnd_out hF
  refine ab_callIv X S (c_X2_init l D cA sz e5) mi_X2_init rfl lm_X8_9 li_yX2_init (As := []) (rest := [va_rf (some q2), va_rf (some this)]) rfl ⟨by decide, by decide⟩ ⟨(by decide), (by decide)⟩ hl.1 rfl (by simp [ab_cat, ab_cI, ab_cJ, ab_cD, ab_cF]) dX8_init_9 (fun H1 locs1 S => ?_)
  refine ab_putR X S hF fi_8_0 ci_8 (Or.inr ⟨rfl, hin, rfl⟩) (fun q => by cases q <;> rfl) (fun q => by cases q <;> rfl) lf_X8_10 dX8_init_12 (fun h6 H1 locs1 hF S => ?_)
  refine ab_aload_n X dX8_init_15 rfl (lv_at hl 0 rfl) ?_
  refine ab_newx X S hF fi_7_0 ci_7 df_7 lk_X8_16 ln_RX7_1 lz_RX7 (by decide) (by decide) dX8_init_16 (fun q8 h7 H1 hF S => ?_)
  refine lv_dup X.1 X.2.1 dX8_init_19 (by simp [ab_cat, ab_cI, ab_cJ, ab_cD, ab_cF]) ?_
  obtain ⟨x9, h10, e11, hF⟩ := bnd_out hF
  refine ab_callIv X S (c_X7_init l D cA sz e11) mi_X7_init rfl lm_X8_18 li_yX7_init (As := []) (rest := [va_rf (some q8), va_rf (some this)]) rfl ⟨by decide, by decide⟩ ⟨(by decide), (by decide)⟩ hl.1 rfl (by simp [ab_cat, ab_cI, ab_cJ, ab_cD, ab_cF]) dX8_init_20 (fun H1 locs1 S => ?_)
  refine ab_putR X S hF fi_8_1 ci_8 (Or.inr ⟨rfl, hin, rfl⟩) (fun q => by cases q <;> rfl) (fun q => by cases q <;> rfl) lf_X8_19 dX8_init_23 (fun h12 H1 locs1 hF S => ?_)
  refine ab_aload_n X dX8_init_26 rfl (lv_at hl 0 rfl) ?_
  refine lv_bipush (v := 8) X.1 X.2.1 dX8_init_27 (by decide) ?_
  refine ab_newR X S hF rfl (by decide) X.2.2.2.2.2.1.2.2.2.1 lk_X8_23 (by decide) (by decide) dX8_init_29 (fun x14 h13 H1 hF S => ?_)
  refine ab_putR X S hF fi_8_2 ci_8 (Or.inr ⟨rfl, hin, rfl⟩) (fun q => by cases q <;> rfl) (fun q => by cases q <;> rfl) lf_X8_25 dX8_init_32 (fun h15 H1 locs1 hF S => ?_)
  refine ab_aload_n X dX8_init_35 rfl (lv_at hl 0 rfl) ?_
  refine lv_bipush (v := 8) X.1 X.2.1 dX8_init_36 (by decide) ?_
  refine ab_newR X S hF rfl (by decide) X.2.2.2.2.2.1.2.2.2.2.2.2 lk_X8_29 (by decide) (by decide) dX8_init_38 (fun x17 h16 H1 hF S => ?_)
  refine ab_putR X S hF fi_8_4 ci_8 (Or.inr ⟨rfl, hin, rfl⟩) (fun q => by cases q <;> rfl) (fun q => by cases q <;> rfl) lf_X8_31 dX8_init_41 (fun h18 H1 locs1 hF S => ?_)
  refine ab_aload_n X dX8_init_44 rfl (lv_at hl 0 rfl) ?_
  refine lv_iconst (v := 4) X.1 X.2.1 dX8_init_45 (by decide) ?_
  refine ab_newR X S hF rfl (by decide) X.2.2.2.2.2.1.2.2.2.2.2.1 lk_X8_35 (by decide) (by decide) dX8_init_46 (fun x20 h19 H1 hF S => ?_)
  refine ab_putR X S hF fi_8_6 ci_8 (Or.inr ⟨rfl, hin, rfl⟩) (fun q => by cases q <;> rfl) (fun q => by cases q <;> rfl) lf_X8_37 dX8_init_49 (fun h21 H1 locs1 hF S => ?_)
  refine ab_aload_n X dX8_init_52 rfl (lv_at hl 0 rfl) ?_
  refine lv_iconst (v := 5) X.1 X.2.1 dX8_init_53 (by decide) ?_
  refine ab_newR X S hF rfl (by decide) X.2.2.2.2.2.1.2.2.2.2.2.1 lk_X8_35 (by decide) (by decide) dX8_init_54 (fun x23 h22 H1 hF S => ?_)
  refine ab_putR X S hF fi_8_8 ci_8 (Or.inr ⟨rfl, hin, rfl⟩) (fun q => by cases q <;> rfl) (fun q => by cases q <;> rfl) lf_X8_41 dX8_init_57 (fun h24 H1 locs1 hF S => ?_)
  refine ab_aload_n X dX8_init_60 rfl (lv_at hl 0 rfl) ?_
  refine ab_newx X S hF fi_6_0 ci_6 df_6 lk_X8_44 ln_RX6_14 lz_RX6 (by decide) (by decide) dX8_init_61 (fun q26 h25 H1 hF S => ?_)
  refine lv_dup X.1 X.2.1 dX8_init_64 (by simp [ab_cat, ab_cI, ab_cJ, ab_cD, ab_cF]) ?_
  refine ab_aload_n X dX8_init_65 rfl (lv_at hl 0 rfl) ?_
  refine ab_getR X S hF fi_8_0 lf_X8_10 dX8_init_66 (fun x27 hF => ?_)
  obtain ⟨x28, h29, e30, hF⟩ := bnd_out hF
  refine ab_callIv X S (c_X6_init l D cA sz e30) mi_X6_init rfl lm_X8_46 li_yX6_init (As := [va_rf x27]) (rest := [va_rf (some q26), va_rf (some this)]) rfl ⟨by decide, by decide⟩ ⟨(by decide), (by decide)⟩ hl.1 rfl (by simp [ab_cat, ab_cI, ab_cJ, ab_cD, ab_cF]) dX8_init_69 (fun H1 locs1 S => ?_)
  refine ab_putR X S hF fi_8_9 ci_8 (Or.inr ⟨rfl, hin, rfl⟩) (fun q => by cases q <;> rfl) (fun q => by cases q <;> rfl) lf_X8_49 dX8_init_72 (fun h31 H1 locs1 hF S => ?_)
  refine ab_aload_n X dX8_init_75 rfl (lv_at hl 0 rfl) ?_
  refine ab_newx X S hF fi_6_0 ci_6 df_6 lk_X8_44 ln_RX6_14 lz_RX6 (by decide) (by decide) dX8_init_76 (fun q33 h32 H1 hF S => ?_)
  refine lv_dup X.1 X.2.1 dX8_init_79 (by simp [ab_cat, ab_cI, ab_cJ, ab_cD, ab_cF]) ?_
  refine ab_aload_n X dX8_init_80 rfl (lv_at hl 0 rfl) ?_
  refine ab_getR X S hF fi_8_0 lf_X8_10 dX8_init_81 (fun x34 hF => ?_)
  obtain ⟨x35, h36, e37, hF⟩ := bnd_out hF
  refine ab_callIv X S (c_X6_init l D cA sz e37) mi_X6_init rfl lm_X8_46 li_yX6_init (As := [va_rf x34]) (rest := [va_rf (some q33), va_rf (some this)]) rfl ⟨by decide, by decide⟩ ⟨(by decide), (by decide)⟩ hl.1 rfl (by simp [ab_cat, ab_cI, ab_cJ, ab_cD, ab_cF]) dX8_init_84 (fun H1 locs1 S => ?_)
  refine ab_putR X S hF fi_8_10 ci_8 (Or.inr ⟨rfl, hin, rfl⟩) (fun q => by cases q <;> rfl) (fun q => by cases q <;> rfl) lf_X8_53 dX8_init_87 (fun h38 H1 locs1 hF S => ?_)
  refine W.widen (k := 71) (n := 47071) (Nat.le_of_ble_eq_true rfl) (Nat.le_of_ble_eq_true rfl) ?_
  exact ab_vret X S hr hF dX8_init_90
def f_X8_signal_9   (h : Hp) : Option (Int32 × Hp) :=
  some ((-1), h)
set_option maxHeartbeats 4000000 in
set_option maxRecDepth 100000 in
theorem w_X8_signal_9 {p : Program} {l : Launch} {e : Env} {s : State} {m : MethodId} {args : Array Value} {below : List Frame} {meth : Method} {c : Code} {D : va_G} {cA : Nat → ClassId} {sz : Nat} {rr : Int32} {hh : Hp}  (X : ab_X p s m args meth c cX8_signal 2 RX8 D cA sz) (hr : meth.sig.returnType = (some .int))  {H : Heap} {locs : List Loc} {ls : Array Slot}  {h : Hp} (S : ab_H D cA sz h s H locs) (hl : lv_has ls 2 []) (hF : f_X8_signal_9  h = some (rr, hh)) : W p l e (ab_rm 2 3 2004) s m args below meth c H locs 0 0 (MQ below (ab_Q D cA sz (some (.int rr)) hh) args s 3 2004 (fun q => sz ≤ q)) (F0 m 9 ls []) := by
  unfold f_X8_signal_9 at hF
  refine lv_iconst (v := (-1)) X.1 X.2.1 dX8_signal_9 (by decide) ?_
  refine W.widen (k := 3) (n := 2004) (Nat.le_of_ble_eq_true rfl) (Nat.le_of_ble_eq_true rfl) ?_
  exact ab_iret X S hr hF dX8_signal_10
def f_X8_signal_45  (v0 : Option Nat) (u0 : Int32) (u1 : Option Nat) (u2 : Option Nat) (u3 : Int32) (u4 : Option Nat) (h : Hp) : Option (Int32 × Hp) :=
  (ab_ck h u1 (5, 0)).bind fun a4 =>
  bnd (f_X5_init a4 u0 h) fun _ h2 =>
  (astR h2 u4 16 u3 u2).bind fun h6 =>
  (getI h6 v0 8 5).bind fun x7 =>
  (putI h6 v0 8 5 (x7 + 1)).bind fun h8 =>
  (getI h8 v0 8 5).bind fun x9 =>
  some (x9 - 1, h8)
set_option maxHeartbeats 4000000 in
set_option maxRecDepth 100000 in
theorem w_X8_signal_45 {p : Program} {l : Launch} {e : Env} {s : State} {m : MethodId} {args : Array Value} {below : List Frame} {meth : Method} {c : Code} {D : va_G} {cA : Nat → ClassId} {sz : Nat} {rr : Int32} {hh : Hp}  (X : ab_X p s m args meth c cX8_signal 2 RX8 D cA sz) (hr : meth.sig.returnType = (some .int))  {H : Heap} {locs : List Loc} {ls : Array Slot} {v0 : Option Nat} {u0 : Int32} {u1 : Option Nat} {u2 : Option Nat} {u3 : Int32} {u4 : Option Nat} {h : Hp} (S : ab_H D cA sz h s H locs) (hl : lv_has ls 2 [(0, va_rf v0)]) (hF : f_X8_signal_45 v0 u0 u1 u2 u3 u4 h = some (rr, hh)) : W p l e (ab_rm 2 3 2004) s m args below meth c H locs 1 4 (MQ below (ab_Q D cA sz (some (.int rr)) hh) args s 3 2004 (fun q => sz ≤ q)) (F0 m 45 ls [.int u0, va_rf u1, va_rf u2, .int u3, va_rf u4]) := by
  unfold f_X8_signal_45 at hF
  obtain ⟨a4, e5, hF⟩ := bind_out hF
  obtain ⟨x1, h2, e3, hF⟩ := bnd_out hF
  refine ab_callIv X S (c_X5_init l D cA sz e3) mi_X5_init rfl lm_X8_103 li_yX5_init (As := [.int u0]) (rest := [va_rf u2, .int u3, va_rf u4]) rfl ⟨by decide, by decide⟩ ⟨(by decide), (by decide)⟩ hl.1 (congrArg (fun z => List.reverse [.int u0] ++ va_rf z :: [va_rf u2, .int u3, va_rf u4]) (ab_ck_some e5).1) (by simp [ab_cat, ab_cI, ab_cJ, ab_cD, ab_cF]) dX8_signal_45 (fun H1 locs1 S => ?_)
  refine ab_astR X S hF rfl (by decide) rfl dX8_signal_48 (fun h6 H1 locs1 hF S => ?_)
  refine ab_aload_n X dX8_signal_49 rfl (lv_at hl 0 rfl) ?_
  refine lv_dup X.1 X.2.1 dX8_signal_50 (by simp [ab_cat, ab_cI, ab_cJ, ab_cD, ab_cF]) ?_
  refine ab_getI X S hF fi_8_5 lf_X8_100 dX8_signal_51 (fun x7 hF => ?_)
  refine lv_iconst (v := 1) X.1 X.2.1 dX8_signal_54 (by decide) ?_
  refine lv_iadd X.1 X.2.1 dX8_signal_55 ?_
  refine ab_putI X S hF fi_8_5 ci_8 (Or.inl rfl) rfl lf_X8_100 dX8_signal_56 (fun h8 H1 locs1 hF S => ?_)
  refine ab_aload_n X dX8_signal_59 rfl (lv_at hl 0 rfl) ?_
  refine ab_getI X S hF fi_8_5 lf_X8_100 dX8_signal_60 (fun x9 hF => ?_)
  refine lv_iconst (v := 1) X.1 X.2.1 dX8_signal_63 (by decide) ?_
  refine lv_isub X.1 X.2.1 dX8_signal_64 ?_
  refine W.widen (k := 3) (n := 2004) (Nat.le_of_ble_eq_true rfl) (Nat.le_of_ble_eq_true rfl) ?_
  exact ab_iret X S hr hF dX8_signal_65
def f_X8_signal (this : Nat) (p0 : Int32) (h : Hp) : Option (Int32 × Hp) :=
  if p0 < 0 then
    f_X8_signal_9 h
  else
    if p0 ≤ 1 then
      (getI h (some this) 8 5).bind fun x3 =>
      if x3 < 8 then
        (getR h (some this) 8 4).bind fun x5 =>
        (getI h (some this) 8 5).bind fun x6 =>
        newo h 5 fun q8 h7 =>
        if ¬ p0 = 1 then
          f_X8_signal_45 (some this) 0 (some q8) (some q8) x6 x5 h7
        else
          f_X8_signal_45 (some this) 1 (some q8) (some q8) x6 x5 h7
      else
        some ((-3), h)
    else
      f_X8_signal_9 h
theorem mi_X8_signal : ab_MI yX8_signal cX8_signal 2 (some .int) 1 := ⟨lc_yX8_signal, lz_RX8, by decide, by decide, by decide +kernel⟩
set_option maxHeartbeats 4000000 in
set_option maxRecDepth 100000 in
theorem c_X8_signal (l : Launch) (D : va_G) (cA : Nat → ClassId) (sz : Nat) {this : Nat} {p0 : Int32} {h hh : Hp} {rr : Int32} (hF : f_X8_signal this p0 h = some (rr, hh)) : ab_C l D cA sz yX8_signal cX8_signal 2 (some .int) 2 3 2004 [.ref this, .int p0] h (some (.int rr)) hh := by
  refine Met.ofW (cc := cX8_signal) (maxL := 2) (ret := (some .int)) (by decide) rfl ?_
  intro p e s m args below meth c s₁ B hml hv
  obtain ⟨rfl, hT, hR⟩ := hv
  have X : ab_X p s m _ meth c cX8_signal 2 RX8 D cA sz := (ab_enter B hml hT hR).1
  have S := (ab_enter B hml hT hR).2
  have hr := B.returns
  obtain ⟨ls, hls, hl⟩ := ab_entry m [.ref this, .int p0] 2 (lv := [(0, .ref this), (1, .int p0)]) (by simp [lg_sl, ab_cat, ab_cI, ab_cJ, ab_cD, ab_cF, ab_cA]) (by simp [lv_args, ab_cat, ab_cI, ab_cJ, ab_cD, ab_cF, ab_cA])
  rw [hls]
  have hl : lv_has ls 2 [(0, va_rf (some this)), (1, .int p0)] := hl
  unfold f_X8_signal at hF
  show W p l e (ab_rm 2 3 2004) s m _ below meth c s.heap [] 0 0 _ _
  refine lv_iload_n X.1 X.2.1 dX8_signal_0 rfl (lv_at hl 1 rfl) ?_
  refine lv_if_lt (tgt := 9) X.1 X.2.1 dX8_signal_1 (by decide) (fun c1 => ?_) (fun c1 => ?_)
  · have hF := ab_pos c1 hF
    refine W.widen (k := 0) (n := 0) (Nat.le_of_ble_eq_true rfl) (Nat.le_of_ble_eq_true rfl) ?_
    exact w_X8_signal_9 X hr  S (lv_sub hl [] rfl) hF
  · have hF := ab_neg c1 hF
    refine lv_iload_n X.1 X.2.1 dX8_signal_4 rfl (lv_at hl 1 rfl) ?_
    refine lv_iconst (v := 1) X.1 X.2.1 dX8_signal_5 (by decide) ?_
    refine lv_icmp_le (tgt := 11) X.1 X.2.1 dX8_signal_6 (by decide) (fun c2 => ?_) (fun c2 => ?_)
    · have hF := ab_pos c2 hF
      refine ab_aload_n X dX8_signal_11 rfl (lv_at hl 0 rfl) ?_
      refine ab_getI X S hF fi_8_5 lf_X8_100 dX8_signal_12 (fun x3 hF => ?_)
      refine lv_bipush (v := 8) X.1 X.2.1 dX8_signal_15 (by decide) ?_
      refine lv_icmp_lt (tgt := 23) X.1 X.2.1 dX8_signal_17 (by decide) (fun c4 => ?_) (fun c4 => ?_)
      · have hF := ab_pos c4 hF
        refine ab_aload_n X dX8_signal_23 rfl (lv_at hl 0 rfl) ?_
        refine ab_getR X S hF fi_8_4 lf_X8_31 dX8_signal_24 (fun x5 hF => ?_)
        refine ab_aload_n X dX8_signal_27 rfl (lv_at hl 0 rfl) ?_
        refine ab_getI X S hF fi_8_5 lf_X8_100 dX8_signal_28 (fun x6 hF => ?_)
        refine ab_newx X S hF fi_5_0 ci_5 df_5 lk_X8_29 ln_RX5_4 lz_RX5 (by decide) (by decide) dX8_signal_31 (fun q8 h7 H1 hF S => ?_)
        refine lv_dup X.1 X.2.1 dX8_signal_34 (by simp [ab_cat, ab_cI, ab_cJ, ab_cD, ab_cF]) ?_
        refine lv_iload_n X.1 X.2.1 dX8_signal_35 rfl (lv_at hl 1 rfl) ?_
        refine lv_iconst (v := 1) X.1 X.2.1 dX8_signal_36 (by decide) ?_
        refine lv_icmp_ne (tgt := 44) X.1 X.2.1 dX8_signal_37 (by decide) (fun c9 => ?_) (fun c9 => ?_)
        · have hF := ab_pos c9 hF
          refine lv_iconst (v := 0) X.1 X.2.1 dX8_signal_44 (by decide) ?_
          refine W.widen (k := 1) (n := 4) (Nat.le_of_ble_eq_true rfl) (Nat.le_of_ble_eq_true rfl) ?_
          exact w_X8_signal_45 X hr  S (lv_sub hl [0] rfl) hF
        · have hF := ab_neg (fun q => q c9) hF
          refine lv_iconst (v := 1) X.1 X.2.1 dX8_signal_40 (by decide) ?_
          refine lv_goto (tgt := 45) X.1 X.2.1 dX8_signal_41 (by decide) ?_
          refine W.widen (k := 1) (n := 4) (Nat.le_of_ble_eq_true rfl) (Nat.le_of_ble_eq_true rfl) ?_
          exact w_X8_signal_45 X hr  S (lv_sub hl [0] rfl) hF
      · have hF := ab_neg c4 hF
        refine lv_bipush (v := (-3)) X.1 X.2.1 dX8_signal_20 (by decide) ?_
        refine W.widen (k := 3) (n := 2004) (Nat.le_of_ble_eq_true rfl) (Nat.le_of_ble_eq_true rfl) ?_
        exact ab_iret X S hr hF dX8_signal_22
    · have hF := ab_neg c2 hF
      refine W.widen (k := 0) (n := 0) (Nat.le_of_ble_eq_true rfl) (Nat.le_of_ble_eq_true rfl) ?_
      exact w_X8_signal_9 X hr  S (lv_sub hl [] rfl) hF
def f_X8_lawAt_22  (u0 : Option Nat) (h : Hp) : Option (Option Nat × Hp) :=
  some (u0, h)
set_option maxHeartbeats 4000000 in
set_option maxRecDepth 100000 in
theorem w_X8_lawAt_22 {p : Program} {l : Launch} {e : Env} {s : State} {m : MethodId} {args : Array Value} {below : List Frame} {meth : Method} {c : Code} {D : va_G} {cA : Nat → ClassId} {sz : Nat} {rr : Option Nat} {hh : Hp}  (X : ab_X p s m args meth c cX8_lawAt 2 RX8 D cA sz) (hr : meth.sig.returnType = (some (.object "MotionStepper$Law")))  {H : Heap} {locs : List Loc} {ls : Array Slot} {u0 : Option Nat} {h : Hp} (S : ab_H D cA sz h s H locs) (hl : lv_has ls 2 []) (hF : f_X8_lawAt_22 u0 h = some (rr, hh)) : W p l e (ab_rm 0 0 0) s m args below meth c H locs 0 0 (MQ below (ab_Q D cA sz (some (va_rf rr)) hh) args s 0 0 (fun q => sz ≤ q)) (F0 m 22 ls [va_rf u0]) := by
  unfold f_X8_lawAt_22 at hF
  exact ab_aret X S hr hF dX8_lawAt_22
def f_X8_lawAt_21   (h : Hp) : Option (Option Nat × Hp) :=
  f_X8_lawAt_22 none h
set_option maxHeartbeats 4000000 in
set_option maxRecDepth 100000 in
theorem w_X8_lawAt_21 {p : Program} {l : Launch} {e : Env} {s : State} {m : MethodId} {args : Array Value} {below : List Frame} {meth : Method} {c : Code} {D : va_G} {cA : Nat → ClassId} {sz : Nat} {rr : Option Nat} {hh : Hp}  (X : ab_X p s m args meth c cX8_lawAt 2 RX8 D cA sz) (hr : meth.sig.returnType = (some (.object "MotionStepper$Law")))  {H : Heap} {locs : List Loc} {ls : Array Slot}  {h : Hp} (S : ab_H D cA sz h s H locs) (hl : lv_has ls 2 []) (hF : f_X8_lawAt_21  h = some (rr, hh)) : W p l e (ab_rm 0 0 0) s m args below meth c H locs 0 0 (MQ below (ab_Q D cA sz (some (va_rf rr)) hh) args s 0 0 (fun q => sz ≤ q)) (F0 m 21 ls []) := by
  unfold f_X8_lawAt_21 at hF
  refine lv_null X.1 X.2.1 dX8_lawAt_21 ?_
  exact w_X8_lawAt_22 X hr  S (lv_sub hl [] rfl) hF
def f_X8_lawAt (this : Nat) (p0 : Int32) (h : Hp) : Option (Option Nat × Hp) :=
  if p0 < 0 then
    f_X8_lawAt_21 h
  else
    (getI h (some this) 8 3).bind fun x2 =>
    if x2 ≤ p0 then
      f_X8_lawAt_21 h
    else
      (getR h (some this) 8 2).bind fun x4 =>
      (aldR h x4 13 p0).bind fun x5 =>
      f_X8_lawAt_22 x5 h
theorem mi_X8_lawAt : ab_MI yX8_lawAt cX8_lawAt 2 (some (.object "MotionStepper$Law")) 1 := ⟨lc_yX8_lawAt, lz_RX8, by decide, by decide, by decide +kernel⟩
set_option maxHeartbeats 4000000 in
set_option maxRecDepth 100000 in
theorem c_X8_lawAt (l : Launch) (D : va_G) (cA : Nat → ClassId) (sz : Nat) {this : Nat} {p0 : Int32} {h hh : Hp} {rr : Option Nat} (hF : f_X8_lawAt this p0 h = some (rr, hh)) : ab_C l D cA sz yX8_lawAt cX8_lawAt 2 (some (.object "MotionStepper$Law")) 0 0 0 [.ref this, .int p0] h (some (va_rf rr)) hh := by
  refine Met.ofW (cc := cX8_lawAt) (maxL := 2) (ret := (some (.object "MotionStepper$Law"))) (by decide) rfl ?_
  intro p e s m args below meth c s₁ B hml hv
  obtain ⟨rfl, hT, hR⟩ := hv
  have X : ab_X p s m _ meth c cX8_lawAt 2 RX8 D cA sz := (ab_enter B hml hT hR).1
  have S := (ab_enter B hml hT hR).2
  have hr := B.returns
  obtain ⟨ls, hls, hl⟩ := ab_entry m [.ref this, .int p0] 2 (lv := [(0, .ref this), (1, .int p0)]) (by simp [lg_sl, ab_cat, ab_cI, ab_cJ, ab_cD, ab_cF, ab_cA]) (by simp [lv_args, ab_cat, ab_cI, ab_cJ, ab_cD, ab_cF, ab_cA])
  rw [hls]
  have hl : lv_has ls 2 [(0, va_rf (some this)), (1, .int p0)] := hl
  unfold f_X8_lawAt at hF
  show W p l e (ab_rm 0 0 0) s m _ below meth c s.heap [] 0 0 _ _
  refine lv_iload_n X.1 X.2.1 dX8_lawAt_0 rfl (lv_at hl 1 rfl) ?_
  refine lv_if_lt (tgt := 21) X.1 X.2.1 dX8_lawAt_1 (by decide) (fun c1 => ?_) (fun c1 => ?_)
  · have hF := ab_pos c1 hF
    exact w_X8_lawAt_21 X hr  S (lv_sub hl [] rfl) hF
  · have hF := ab_neg c1 hF
    refine lv_iload_n X.1 X.2.1 dX8_lawAt_4 rfl (lv_at hl 1 rfl) ?_
    refine ab_aload_n X dX8_lawAt_5 rfl (lv_at hl 0 rfl) ?_
    refine ab_getI X S hF fi_8_3 lf_X8_56 dX8_lawAt_6 (fun x2 hF => ?_)
    refine lv_icmp_ge (tgt := 21) X.1 X.2.1 dX8_lawAt_9 (by decide) (fun c3 => ?_) (fun c3 => ?_)
    · have hF := ab_pos c3 hF
      exact w_X8_lawAt_21 X hr  S (lv_sub hl [] rfl) hF
    · have hF := ab_neg c3 hF
      refine ab_aload_n X dX8_lawAt_12 rfl (lv_at hl 0 rfl) ?_
      refine ab_getR X S hF fi_8_2 lf_X8_25 dX8_lawAt_13 (fun x4 hF => ?_)
      refine lv_iload_n X.1 X.2.1 dX8_lawAt_16 rfl (lv_at hl 1 rfl) ?_
      refine ab_aldR X S hF rfl (by decide) dX8_lawAt_17 (fun x5 hF => ?_)
      refine lv_goto (tgt := 22) X.1 X.2.1 dX8_lawAt_18 (by decide) ?_
      exact w_X8_lawAt_22 X hr  S (lv_sub hl [] rfl) hF
def f_X8_runAt_22  (u0 : Option Nat) (h : Hp) : Option (Option Nat × Hp) :=
  some (u0, h)
set_option maxHeartbeats 4000000 in
set_option maxRecDepth 100000 in
theorem w_X8_runAt_22 {p : Program} {l : Launch} {e : Env} {s : State} {m : MethodId} {args : Array Value} {below : List Frame} {meth : Method} {c : Code} {D : va_G} {cA : Nat → ClassId} {sz : Nat} {rr : Option Nat} {hh : Hp}  (X : ab_X p s m args meth c cX8_runAt 2 RX8 D cA sz) (hr : meth.sig.returnType = (some (.object "MotionStepper$Run")))  {H : Heap} {locs : List Loc} {ls : Array Slot} {u0 : Option Nat} {h : Hp} (S : ab_H D cA sz h s H locs) (hl : lv_has ls 2 []) (hF : f_X8_runAt_22 u0 h = some (rr, hh)) : W p l e (ab_rm 0 0 0) s m args below meth c H locs 0 0 (MQ below (ab_Q D cA sz (some (va_rf rr)) hh) args s 0 0 (fun q => sz ≤ q)) (F0 m 22 ls [va_rf u0]) := by
  unfold f_X8_runAt_22 at hF
  exact ab_aret X S hr hF dX8_runAt_22
def f_X8_runAt_21   (h : Hp) : Option (Option Nat × Hp) :=
  f_X8_runAt_22 none h
set_option maxHeartbeats 4000000 in
set_option maxRecDepth 100000 in
theorem w_X8_runAt_21 {p : Program} {l : Launch} {e : Env} {s : State} {m : MethodId} {args : Array Value} {below : List Frame} {meth : Method} {c : Code} {D : va_G} {cA : Nat → ClassId} {sz : Nat} {rr : Option Nat} {hh : Hp}  (X : ab_X p s m args meth c cX8_runAt 2 RX8 D cA sz) (hr : meth.sig.returnType = (some (.object "MotionStepper$Run")))  {H : Heap} {locs : List Loc} {ls : Array Slot}  {h : Hp} (S : ab_H D cA sz h s H locs) (hl : lv_has ls 2 []) (hF : f_X8_runAt_21  h = some (rr, hh)) : W p l e (ab_rm 0 0 0) s m args below meth c H locs 0 0 (MQ below (ab_Q D cA sz (some (va_rf rr)) hh) args s 0 0 (fun q => sz ≤ q)) (F0 m 21 ls []) := by
  unfold f_X8_runAt_21 at hF
  refine lv_null X.1 X.2.1 dX8_runAt_21 ?_
  exact w_X8_runAt_22 X hr  S (lv_sub hl [] rfl) hF
def f_X8_runAt (this : Nat) (p0 : Int32) (h : Hp) : Option (Option Nat × Hp) :=
  if p0 < 0 then
    f_X8_runAt_21 h
  else
    (getI h (some this) 8 7).bind fun x2 =>
    if x2 ≤ p0 then
      f_X8_runAt_21 h
    else
      (getR h (some this) 8 6).bind fun x4 =>
      (aldR h x4 15 p0).bind fun x5 =>
      f_X8_runAt_22 x5 h
theorem mi_X8_runAt : ab_MI yX8_runAt cX8_runAt 2 (some (.object "MotionStepper$Run")) 1 := ⟨lc_yX8_runAt, lz_RX8, by decide, by decide, by decide +kernel⟩
set_option maxHeartbeats 4000000 in
set_option maxRecDepth 100000 in
theorem c_X8_runAt (l : Launch) (D : va_G) (cA : Nat → ClassId) (sz : Nat) {this : Nat} {p0 : Int32} {h hh : Hp} {rr : Option Nat} (hF : f_X8_runAt this p0 h = some (rr, hh)) : ab_C l D cA sz yX8_runAt cX8_runAt 2 (some (.object "MotionStepper$Run")) 0 0 0 [.ref this, .int p0] h (some (va_rf rr)) hh := by
  refine Met.ofW (cc := cX8_runAt) (maxL := 2) (ret := (some (.object "MotionStepper$Run"))) (by decide) rfl ?_
  intro p e s m args below meth c s₁ B hml hv
  obtain ⟨rfl, hT, hR⟩ := hv
  have X : ab_X p s m _ meth c cX8_runAt 2 RX8 D cA sz := (ab_enter B hml hT hR).1
  have S := (ab_enter B hml hT hR).2
  have hr := B.returns
  obtain ⟨ls, hls, hl⟩ := ab_entry m [.ref this, .int p0] 2 (lv := [(0, .ref this), (1, .int p0)]) (by simp [lg_sl, ab_cat, ab_cI, ab_cJ, ab_cD, ab_cF, ab_cA]) (by simp [lv_args, ab_cat, ab_cI, ab_cJ, ab_cD, ab_cF, ab_cA])
  rw [hls]
  have hl : lv_has ls 2 [(0, va_rf (some this)), (1, .int p0)] := hl
  unfold f_X8_runAt at hF
  show W p l e (ab_rm 0 0 0) s m _ below meth c s.heap [] 0 0 _ _
  refine lv_iload_n X.1 X.2.1 dX8_runAt_0 rfl (lv_at hl 1 rfl) ?_
  refine lv_if_lt (tgt := 21) X.1 X.2.1 dX8_runAt_1 (by decide) (fun c1 => ?_) (fun c1 => ?_)
  · have hF := ab_pos c1 hF
    exact w_X8_runAt_21 X hr  S (lv_sub hl [] rfl) hF
  · have hF := ab_neg c1 hF
    refine lv_iload_n X.1 X.2.1 dX8_runAt_4 rfl (lv_at hl 1 rfl) ?_
    refine ab_aload_n X dX8_runAt_5 rfl (lv_at hl 0 rfl) ?_
    refine ab_getI X S hF fi_8_7 lf_X8_89 dX8_runAt_6 (fun x2 hF => ?_)
    refine lv_icmp_ge (tgt := 21) X.1 X.2.1 dX8_runAt_9 (by decide) (fun c3 => ?_) (fun c3 => ?_)
    · have hF := ab_pos c3 hF
      exact w_X8_runAt_21 X hr  S (lv_sub hl [] rfl) hF
    · have hF := ab_neg c3 hF
      refine ab_aload_n X dX8_runAt_12 rfl (lv_at hl 0 rfl) ?_
      refine ab_getR X S hF fi_8_6 lf_X8_37 dX8_runAt_13 (fun x4 hF => ?_)
      refine lv_iload_n X.1 X.2.1 dX8_runAt_16 rfl (lv_at hl 1 rfl) ?_
      refine ab_aldR X S hF rfl (by decide) dX8_runAt_17 (fun x5 hF => ?_)
      refine lv_goto (tgt := 22) X.1 X.2.1 dX8_runAt_18 (by decide) ?_
      exact w_X8_runAt_22 X hr  S (lv_sub hl [] rfl) hF
def f_X8_isK_15  (u0 : Int32) (h : Hp) : Option (Int32 × Hp) :=
  if u0 = 0 ∨ u0 = 1 then some (u0, h) else none
set_option maxHeartbeats 4000000 in
set_option maxRecDepth 100000 in
theorem w_X8_isK_15 {p : Program} {l : Launch} {e : Env} {s : State} {m : MethodId} {args : Array Value} {below : List Frame} {meth : Method} {c : Code} {D : va_G} {cA : Nat → ClassId} {sz : Nat} {rr : Int32} {hh : Hp}  (X : ab_X p s m args meth c cX8_isK 1 RX8 D cA sz) (hr : meth.sig.returnType = (some .boolean))  {H : Heap} {locs : List Loc} {ls : Array Slot} {u0 : Int32} {h : Hp} (S : ab_H D cA sz h s H locs) (hl : lv_has ls 1 []) (hF : f_X8_isK_15 u0 h = some (rr, hh)) : W p l e (ab_rm 0 0 0) s m args below meth c H locs 0 0 (MQ below (ab_Q D cA sz (some (.int rr)) hh) args s 0 0 (fun q => sz ≤ q)) (F0 m 15 ls [.int u0]) := by
  unfold f_X8_isK_15 at hF
  exact ab_zret X S hr hF dX8_isK_15
def f_X8_isK_14   (h : Hp) : Option (Int32 × Hp) :=
  f_X8_isK_15 0 h
set_option maxHeartbeats 4000000 in
set_option maxRecDepth 100000 in
theorem w_X8_isK_14 {p : Program} {l : Launch} {e : Env} {s : State} {m : MethodId} {args : Array Value} {below : List Frame} {meth : Method} {c : Code} {D : va_G} {cA : Nat → ClassId} {sz : Nat} {rr : Int32} {hh : Hp}  (X : ab_X p s m args meth c cX8_isK 1 RX8 D cA sz) (hr : meth.sig.returnType = (some .boolean))  {H : Heap} {locs : List Loc} {ls : Array Slot}  {h : Hp} (S : ab_H D cA sz h s H locs) (hl : lv_has ls 1 []) (hF : f_X8_isK_14  h = some (rr, hh)) : W p l e (ab_rm 0 0 0) s m args below meth c H locs 0 0 (MQ below (ab_Q D cA sz (some (.int rr)) hh) args s 0 0 (fun q => sz ≤ q)) (F0 m 14 ls []) := by
  unfold f_X8_isK_14 at hF
  refine lv_iconst (v := 0) X.1 X.2.1 dX8_isK_14 (by decide) ?_
  exact w_X8_isK_15 X hr  S (lv_sub hl [] rfl) hF
def f_X8_isK (p0 : Int32) (h : Hp) : Option (Int32 × Hp) :=
  if p0 < 0 then
    f_X8_isK_14 h
  else
    if 30 < p0 then
      f_X8_isK_14 h
    else
      f_X8_isK_15 1 h
theorem mi_X8_isK : ab_MI yX8_isK cX8_isK 1 (some .boolean) 1 := ⟨lc_yX8_isK, lz_RX8, by decide, by decide, by decide +kernel⟩
set_option maxHeartbeats 4000000 in
set_option maxRecDepth 100000 in
theorem c_X8_isK (l : Launch) (D : va_G) (cA : Nat → ClassId) (sz : Nat) {p0 : Int32} {h hh : Hp} {rr : Int32} (hF : f_X8_isK p0 h = some (rr, hh)) : ab_C l D cA sz yX8_isK cX8_isK 1 (some .boolean) 0 0 0 [.int p0] h (some (.int rr)) hh := by
  refine Met.ofW (cc := cX8_isK) (maxL := 1) (ret := (some .boolean)) (by decide) rfl ?_
  intro p e s m args below meth c s₁ B hml hv
  obtain ⟨rfl, hT, hR⟩ := hv
  have X : ab_X p s m _ meth c cX8_isK 1 RX8 D cA sz := (ab_enter B hml hT hR).1
  have S := (ab_enter B hml hT hR).2
  have hr := B.returns
  obtain ⟨ls, hls, hl⟩ := ab_entry m [.int p0] 1 (lv := [(0, .int p0)]) (by simp [lg_sl, ab_cat, ab_cI, ab_cJ, ab_cD, ab_cF, ab_cA]) (by simp [lv_args, ab_cat, ab_cI, ab_cJ, ab_cD, ab_cF, ab_cA])
  rw [hls]
  have hl : lv_has ls 1 [(0, .int p0)] := hl
  unfold f_X8_isK at hF
  show W p l e (ab_rm 0 0 0) s m _ below meth c s.heap [] 0 0 _ _
  refine lv_iload_n X.1 X.2.1 dX8_isK_0 rfl (lv_at hl 0 rfl) ?_
  refine lv_if_lt (tgt := 14) X.1 X.2.1 dX8_isK_1 (by decide) (fun c1 => ?_) (fun c1 => ?_)
  · have hF := ab_pos c1 hF
    exact w_X8_isK_14 X hr  S (lv_sub hl [] rfl) hF
  · have hF := ab_neg c1 hF
    refine lv_iload_n X.1 X.2.1 dX8_isK_4 rfl (lv_at hl 0 rfl) ?_
    refine lv_bipush (v := 30) X.1 X.2.1 dX8_isK_5 (by decide) ?_
    refine lv_icmp_gt (tgt := 14) X.1 X.2.1 dX8_isK_7 (by decide) (fun c2 => ?_) (fun c2 => ?_)
    · have hF := ab_pos c2 hF
      exact w_X8_isK_14 X hr  S (lv_sub hl [] rfl) hF
    · have hF := ab_neg c2 hF
      refine lv_iconst (v := 1) X.1 X.2.1 dX8_isK_10 (by decide) ?_
      refine lv_goto (tgt := 15) X.1 X.2.1 dX8_isK_11 (by decide) ?_
      exact w_X8_isK_15 X hr  S (lv_sub hl [] rfl) hF
def f_X8_quotient (p0 : Int64) (p1 : Int32) (h : Hp) : Option (UInt64 × Hp) :=
  (fop (FP.ddiv (FP.l2d p0) (FP.l2d (1 <<< (p1.toInt64 &&& 63))))).bind fun x1 =>
  some (x1, h)
theorem mi_X8_quotient : ab_MI yX8_quotient cX8_quotient 3 (some .double) 2 := ⟨lc_yX8_quotient, lz_RX8, by decide, by decide, by decide +kernel⟩
set_option maxHeartbeats 4000000 in
set_option maxRecDepth 100000 in
theorem c_X8_quotient (l : Launch) (D : va_G) (cA : Nat → ClassId) (sz : Nat) {p0 : Int64} {p1 : Int32} {h hh : Hp} {rr : UInt64} (hF : f_X8_quotient p0 p1 h = some (rr, hh)) : ab_C l D cA sz yX8_quotient cX8_quotient 3 (some .double) 0 0 0 [.long p0, .int p1] h (some (.double rr)) hh := by
  refine Met.ofW (cc := cX8_quotient) (maxL := 3) (ret := (some .double)) (by decide) rfl ?_
  intro p e s m args below meth c s₁ B hml hv
  obtain ⟨rfl, hT, hR⟩ := hv
  have X : ab_X p s m _ meth c cX8_quotient 3 RX8 D cA sz := (ab_enter B hml hT hR).1
  have S := (ab_enter B hml hT hR).2
  have hr := B.returns
  obtain ⟨ls, hls, hl⟩ := ab_entry m [.long p0, .int p1] 3 (lv := [(0, .long p0), (2, .int p1)]) (by simp [lg_sl, ab_cat, ab_cI, ab_cJ, ab_cD, ab_cF, ab_cA]) (by simp [lv_args, ab_cat, ab_cI, ab_cJ, ab_cD, ab_cF, ab_cA])
  rw [hls]
  have hl : lv_has ls 3 [(0, .long p0), (2, .int p1)] := hl
  unfold f_X8_quotient at hF
  show W p l e (ab_rm 0 0 0) s m _ below meth c s.heap [] 0 0 _ _
  refine lv_lload_n X.1 X.2.1 dX8_quotient_0 rfl (lv_at hl 0 rfl) ?_
  refine lv_l2d X.1 X.2.1 dX8_quotient_1 ?_
  refine lv_lconst (v := 1) X.1 X.2.1 dX8_quotient_2 (by decide) ?_
  refine lv_iload_n X.1 X.2.1 dX8_quotient_3 rfl (lv_at hl 1 rfl) ?_
  refine lv_lshl (v := 1 <<< (p1.toInt64 &&& 63)) X.1 X.2.1 dX8_quotient_4 rfl ?_
  refine lv_l2d X.1 X.2.1 dX8_quotient_5 ?_
  obtain ⟨x1, ev, ne, hF⟩ := ab_fopx hF
  refine lv_ddiv X.1 X.2.1 dX8_quotient_6 ne ?_
  rw [ev]
  exact ab_dret X S hr hF dX8_quotient_7
def f_X8_size_13  (u0 : UInt64) (h : Hp) : Option (UInt64 × Hp) :=
  some (u0, h)
set_option maxHeartbeats 4000000 in
set_option maxRecDepth 100000 in
theorem w_X8_size_13 {p : Program} {l : Launch} {e : Env} {s : State} {m : MethodId} {args : Array Value} {below : List Frame} {meth : Method} {c : Code} {D : va_G} {cA : Nat → ClassId} {sz : Nat} {rr : UInt64} {hh : Hp}  (X : ab_X p s m args meth c cX8_size 2 RX8 D cA sz) (hr : meth.sig.returnType = (some .double))  {H : Heap} {locs : List Loc} {ls : Array Slot} {u0 : UInt64} {h : Hp} (S : ab_H D cA sz h s H locs) (hl : lv_has ls 2 []) (hF : f_X8_size_13 u0 h = some (rr, hh)) : W p l e (ab_rm 0 0 0) s m args below meth c H locs 0 0 (MQ below (ab_Q D cA sz (some (.double rr)) hh) args s 0 0 (fun q => sz ≤ q)) (F0 m 13 ls [.double u0]) := by
  unfold f_X8_size_13 at hF
  exact ab_dret X S hr hF dX8_size_13
def f_X8_size (p0 : UInt64) (h : Hp) : Option (UInt64 × Hp) :=
  if 0 < (Op.cmpValue (FP.dcmp p0 FP.dconst0) CmpOp.g) then
    f_X8_size_13 p0 h
  else
    (fop (FP.dsub FP.dconst0 p0)).bind fun x2 =>
    f_X8_size_13 x2 h
theorem mi_X8_size : ab_MI yX8_size cX8_size 2 (some .double) 1 := ⟨lc_yX8_size, lz_RX8, by decide, by decide, by decide +kernel⟩
set_option maxHeartbeats 4000000 in
set_option maxRecDepth 100000 in
theorem c_X8_size (l : Launch) (D : va_G) (cA : Nat → ClassId) (sz : Nat) {p0 : UInt64} {h hh : Hp} {rr : UInt64} (hF : f_X8_size p0 h = some (rr, hh)) : ab_C l D cA sz yX8_size cX8_size 2 (some .double) 0 0 0 [.double p0] h (some (.double rr)) hh := by
  refine Met.ofW (cc := cX8_size) (maxL := 2) (ret := (some .double)) (by decide) rfl ?_
  intro p e s m args below meth c s₁ B hml hv
  obtain ⟨rfl, hT, hR⟩ := hv
  have X : ab_X p s m _ meth c cX8_size 2 RX8 D cA sz := (ab_enter B hml hT hR).1
  have S := (ab_enter B hml hT hR).2
  have hr := B.returns
  obtain ⟨ls, hls, hl⟩ := ab_entry m [.double p0] 2 (lv := [(0, .double p0)]) (by simp [lg_sl, ab_cat, ab_cI, ab_cJ, ab_cD, ab_cF, ab_cA]) (by simp [lv_args, ab_cat, ab_cI, ab_cJ, ab_cD, ab_cF, ab_cA])
  rw [hls]
  have hl : lv_has ls 2 [(0, .double p0)] := hl
  unfold f_X8_size at hF
  show W p l e (ab_rm 0 0 0) s m _ below meth c s.heap [] 0 0 _ _
  refine lv_dload_n X.1 X.2.1 dX8_size_0 rfl (lv_at hl 0 rfl) ?_
  refine lv_dconst0 X.1 X.2.1 dX8_size_1 ?_
  refine lv_dcmp X.1 X.2.1 dX8_size_2 ?_
  refine lv_if_gt (tgt := 12) X.1 X.2.1 dX8_size_3 (by decide) (fun c1 => ?_) (fun c1 => ?_)
  · have hF := ab_pos c1 hF
    refine lv_dload_n X.1 X.2.1 dX8_size_12 rfl (lv_at hl 0 rfl) ?_
    exact w_X8_size_13 X hr  S (lv_sub hl [] rfl) hF
  · have hF := ab_neg c1 hF
    refine lv_dconst0 X.1 X.2.1 dX8_size_6 ?_
    refine lv_dload_n X.1 X.2.1 dX8_size_7 rfl (lv_at hl 0 rfl) ?_
    obtain ⟨x2, ev, ne, hF⟩ := ab_fopx hF
    refine lv_dsub X.1 X.2.1 dX8_size_8 ne ?_
    rw [ev]
    refine lv_goto (tgt := 13) X.1 X.2.1 dX8_size_9 (by decide) ?_
    exact w_X8_size_13 X hr  S (lv_sub hl [] rfl) hF
def f_X8_isTooSmall_13  (u0 : Int32) (h : Hp) : Option (Int32 × Hp) :=
  if u0 = 0 ∨ u0 = 1 then some (u0, h) else none
set_option maxHeartbeats 4000000 in
set_option maxRecDepth 100000 in
theorem w_X8_isTooSmall_13 {p : Program} {l : Launch} {e : Env} {s : State} {m : MethodId} {args : Array Value} {below : List Frame} {meth : Method} {c : Code} {D : va_G} {cA : Nat → ClassId} {sz : Nat} {rr : Int32} {hh : Hp}  (X : ab_X p s m args meth c cX8_isTooSmall 2 RX8 D cA sz) (hr : meth.sig.returnType = (some .boolean))  {H : Heap} {locs : List Loc} {ls : Array Slot} {u0 : Int32} {h : Hp} (S : ab_H D cA sz h s H locs) (hl : lv_has ls 2 []) (hF : f_X8_isTooSmall_13 u0 h = some (rr, hh)) : W p l e (ab_rm 0 0 0) s m args below meth c H locs 0 0 (MQ below (ab_Q D cA sz (some (.int rr)) hh) args s 0 0 (fun q => sz ≤ q)) (F0 m 13 ls [.int u0]) := by
  unfold f_X8_isTooSmall_13 at hF
  exact ab_zret X S hr hF dX8_isTooSmall_13
def f_X8_isTooSmall (p0 : UInt64) (h : Hp) : Option (Int32 × Hp) :=
  if 0 ≤ (Op.cmpValue (FP.dcmp p0 4472074429978902528) CmpOp.g) then
    f_X8_isTooSmall_13 0 h
  else
    f_X8_isTooSmall_13 1 h
theorem mi_X8_isTooSmall : ab_MI yX8_isTooSmall cX8_isTooSmall 2 (some .boolean) 1 := ⟨lc_yX8_isTooSmall, lz_RX8, by decide, by decide, by decide +kernel⟩
set_option maxHeartbeats 4000000 in
set_option maxRecDepth 100000 in
theorem c_X8_isTooSmall (l : Launch) (D : va_G) (cA : Nat → ClassId) (sz : Nat) {p0 : UInt64} {h hh : Hp} {rr : Int32} (hF : f_X8_isTooSmall p0 h = some (rr, hh)) : ab_C l D cA sz yX8_isTooSmall cX8_isTooSmall 2 (some .boolean) 0 0 0 [.double p0] h (some (.int rr)) hh := by
  refine Met.ofW (cc := cX8_isTooSmall) (maxL := 2) (ret := (some .boolean)) (by decide) rfl ?_
  intro p e s m args below meth c s₁ B hml hv
  obtain ⟨rfl, hT, hR⟩ := hv
  have X : ab_X p s m _ meth c cX8_isTooSmall 2 RX8 D cA sz := (ab_enter B hml hT hR).1
  have S := (ab_enter B hml hT hR).2
  have hr := B.returns
  obtain ⟨ls, hls, hl⟩ := ab_entry m [.double p0] 2 (lv := [(0, .double p0)]) (by simp [lg_sl, ab_cat, ab_cI, ab_cJ, ab_cD, ab_cF, ab_cA]) (by simp [lv_args, ab_cat, ab_cI, ab_cJ, ab_cD, ab_cF, ab_cA])
  rw [hls]
  have hl : lv_has ls 2 [(0, .double p0)] := hl
  unfold f_X8_isTooSmall at hF
  show W p l e (ab_rm 0 0 0) s m _ below meth c s.heap [] 0 0 _ _
  refine lv_dload_n X.1 X.2.1 dX8_isTooSmall_0 rfl (lv_at hl 0 rfl) ?_
  refine lv_ldc2d (v := 4472074429978902528) X.1 X.2.1 X.2.2.2.1 (X.2.2.2.2.1 _ ld_X8_286) dX8_isTooSmall_1 ?_
  refine lv_dcmp X.1 X.2.1 dX8_isTooSmall_4 ?_
  refine lv_if_ge (tgt := 12) X.1 X.2.1 dX8_isTooSmall_5 (by decide) (fun c1 => ?_) (fun c1 => ?_)
  · have hF := ab_pos c1 hF
    refine lv_iconst (v := 0) X.1 X.2.1 dX8_isTooSmall_12 (by decide) ?_
    exact w_X8_isTooSmall_13 X hr  S (lv_sub hl [] rfl) hF
  · have hF := ab_neg c1 hF
    refine lv_iconst (v := 1) X.1 X.2.1 dX8_isTooSmall_8 (by decide) ?_
    refine lv_goto (tgt := 13) X.1 X.2.1 dX8_isTooSmall_9 (by decide) ?_
    exact w_X8_isTooSmall_13 X hr  S (lv_sub hl [] rfl) hF
def f_X8_fits_104  (u0 : Int32) (h : Hp) : Option (Int32 × Hp) :=
  if u0 = 0 ∨ u0 = 1 then some (u0, h) else none
set_option maxHeartbeats 4000000 in
set_option maxRecDepth 100000 in
theorem w_X8_fits_104 {p : Program} {l : Launch} {e : Env} {s : State} {m : MethodId} {args : Array Value} {below : List Frame} {meth : Method} {c : Code} {D : va_G} {cA : Nat → ClassId} {sz : Nat} {rr : Int32} {hh : Hp}  (X : ab_X p s m args meth c cX8_fits 6 RX8 D cA sz) (hr : meth.sig.returnType = (some .boolean))  {H : Heap} {locs : List Loc} {ls : Array Slot} {u0 : Int32} {h : Hp} (S : ab_H D cA sz h s H locs) (hl : lv_has ls 6 []) (hF : f_X8_fits_104 u0 h = some (rr, hh)) : W p l e (ab_rm 1 0 0) s m args below meth c H locs 0 0 (MQ below (ab_Q D cA sz (some (.int rr)) hh) args s 0 0 (fun q => sz ≤ q)) (F0 m 104 ls [.int u0]) := by
  unfold f_X8_fits_104 at hF
  exact ab_zret X S hr hF dX8_fits_104
def f_X8_fits_103   (h : Hp) : Option (Int32 × Hp) :=
  f_X8_fits_104 0 h
set_option maxHeartbeats 4000000 in
set_option maxRecDepth 100000 in
theorem w_X8_fits_103 {p : Program} {l : Launch} {e : Env} {s : State} {m : MethodId} {args : Array Value} {below : List Frame} {meth : Method} {c : Code} {D : va_G} {cA : Nat → ClassId} {sz : Nat} {rr : Int32} {hh : Hp}  (X : ab_X p s m args meth c cX8_fits 6 RX8 D cA sz) (hr : meth.sig.returnType = (some .boolean))  {H : Heap} {locs : List Loc} {ls : Array Slot}  {h : Hp} (S : ab_H D cA sz h s H locs) (hl : lv_has ls 6 []) (hF : f_X8_fits_103  h = some (rr, hh)) : W p l e (ab_rm 1 0 0) s m args below meth c H locs 0 0 (MQ below (ab_Q D cA sz (some (.int rr)) hh) args s 0 0 (fun q => sz ≤ q)) (F0 m 103 ls []) := by
  unfold f_X8_fits_103 at hF
  refine lv_iconst (v := 0) X.1 X.2.1 dX8_fits_103 (by decide) ?_
  exact w_X8_fits_104 X hr  S (lv_sub hl [] rfl) hF
def f_X8_fits_82  (v1 : Option Nat) (v3 : Int32) (v4 : Int32) (h : Hp) : Option (Int32 × Hp) :=
  (ab_ck h v1 (1, 0)).bind fun a4 =>
  bnd (f_X1_hasNode a4 v3 h) fun x1 h2 =>
  if x1 = 0 then
    f_X8_fits_103 h2
  else
    (ab_ck h2 v1 (1, 0)).bind fun a10 =>
    bnd (f_X1_hasNode a10 v4 h2) fun x7 h8 =>
    if x7 = 0 then
      f_X8_fits_103 h8
    else
      f_X8_fits_104 1 h8
set_option maxHeartbeats 4000000 in
set_option maxRecDepth 100000 in
theorem w_X8_fits_82 {p : Program} {l : Launch} {e : Env} {s : State} {m : MethodId} {args : Array Value} {below : List Frame} {meth : Method} {c : Code} {D : va_G} {cA : Nat → ClassId} {sz : Nat} {rr : Int32} {hh : Hp}  (X : ab_X p s m args meth c cX8_fits 6 RX8 D cA sz) (hr : meth.sig.returnType = (some .boolean))  {H : Heap} {locs : List Loc} {ls : Array Slot} {v1 : Option Nat} {v3 : Int32} {v4 : Int32} {h : Hp} (S : ab_H D cA sz h s H locs) (hl : lv_has ls 6 [(1, va_rf v1), (3, .int v3), (4, .int v4)]) (hF : f_X8_fits_82 v1 v3 v4 h = some (rr, hh)) : W p l e (ab_rm 1 0 0) s m args below meth c H locs 0 0 (MQ below (ab_Q D cA sz (some (.int rr)) hh) args s 0 0 (fun q => sz ≤ q)) (F0 m 82 ls []) := by
  unfold f_X8_fits_82 at hF
  refine ab_aload_n X dX8_fits_82 rfl (lv_at hl 0 rfl) ?_
  refine lv_iload_n X.1 X.2.1 dX8_fits_83 rfl (lv_at hl 1 rfl) ?_
  obtain ⟨a4, e5, hF⟩ := bind_out hF
  obtain ⟨x1, h2, e3, hF⟩ := bnd_out hF
  refine ab_callVi X S e5 (c_X1_hasNode l D cA sz e3) rfl (by decide) mi_X1_hasNode lm_X8_86 li_yX1_hasNode ls_yX1_hasNode (As := [.int v3]) (rest := []) rfl ⟨by decide, by decide⟩ ⟨(by decide), (by decide)⟩ hl.1 rfl (by simp [ab_cat, ab_cI, ab_cJ, ab_cD, ab_cF]) dX8_fits_84 (fun H1 locs1 S => ?_)
  refine lv_if_eq (tgt := 103) X.1 X.2.1 dX8_fits_87 (by decide) (fun c6 => ?_) (fun c6 => ?_)
  · have hF := ab_pos c6 hF
    exact w_X8_fits_103 X hr  S (lv_sub hl [] rfl) hF
  · have hF := ab_neg c6 hF
    refine ab_aload_n X dX8_fits_90 rfl (lv_at hl 0 rfl) ?_
    refine lv_iload X.1 X.2.1 dX8_fits_91 (lv_at hl 2 rfl) ?_
    obtain ⟨a10, e11, hF⟩ := bind_out hF
    obtain ⟨x7, h8, e9, hF⟩ := bnd_out hF
    refine ab_callVi X S e11 (c_X1_hasNode l D cA sz e9) rfl (by decide) mi_X1_hasNode lm_X8_86 li_yX1_hasNode ls_yX1_hasNode (As := [.int v4]) (rest := []) rfl ⟨by decide, by decide⟩ ⟨(by decide), (by decide)⟩ hl.1 rfl (by simp [ab_cat, ab_cI, ab_cJ, ab_cD, ab_cF]) dX8_fits_93 (fun H1 locs1 S => ?_)
    refine lv_if_eq (tgt := 103) X.1 X.2.1 dX8_fits_96 (by decide) (fun c12 => ?_) (fun c12 => ?_)
    · have hF := ab_pos c12 hF
      exact w_X8_fits_103 X hr  S (lv_sub hl [] rfl) hF
    · have hF := ab_neg c12 hF
      refine lv_iconst (v := 1) X.1 X.2.1 dX8_fits_99 (by decide) ?_
      refine lv_goto (tgt := 104) X.1 X.2.1 dX8_fits_100 (by decide) ?_
      exact w_X8_fits_104 X hr  S (lv_sub hl [] rfl) hF
def f_X8_fits_76  (v1 : Option Nat) (v3 : Int32) (h : Hp) : Option (Int32 × Hp) :=
  (ab_ck h v1 (1, 0)).bind fun a4 =>
  bnd (f_X1_hasNode a4 v3 h) fun x1 h2 =>
  if x1 = 0 ∨ x1 = 1 then some (x1, h2) else none
set_option maxHeartbeats 4000000 in
set_option maxRecDepth 100000 in
theorem w_X8_fits_76 {p : Program} {l : Launch} {e : Env} {s : State} {m : MethodId} {args : Array Value} {below : List Frame} {meth : Method} {c : Code} {D : va_G} {cA : Nat → ClassId} {sz : Nat} {rr : Int32} {hh : Hp}  (X : ab_X p s m args meth c cX8_fits 6 RX8 D cA sz) (hr : meth.sig.returnType = (some .boolean))  {H : Heap} {locs : List Loc} {ls : Array Slot} {v1 : Option Nat} {v3 : Int32} {h : Hp} (S : ab_H D cA sz h s H locs) (hl : lv_has ls 6 [(1, va_rf v1), (3, .int v3)]) (hF : f_X8_fits_76 v1 v3 h = some (rr, hh)) : W p l e (ab_rm 1 0 0) s m args below meth c H locs 0 0 (MQ below (ab_Q D cA sz (some (.int rr)) hh) args s 0 0 (fun q => sz ≤ q)) (F0 m 76 ls []) := by
  unfold f_X8_fits_76 at hF
  refine ab_aload_n X dX8_fits_76 rfl (lv_at hl 0 rfl) ?_
  refine lv_iload_n X.1 X.2.1 dX8_fits_77 rfl (lv_at hl 1 rfl) ?_
  obtain ⟨a4, e5, hF⟩ := bind_out hF
  obtain ⟨x1, h2, e3, hF⟩ := bnd_out hF
  refine ab_callVi X S e5 (c_X1_hasNode l D cA sz e3) rfl (by decide) mi_X1_hasNode lm_X8_86 li_yX1_hasNode ls_yX1_hasNode (As := [.int v3]) (rest := []) rfl ⟨by decide, by decide⟩ ⟨(by decide), (by decide)⟩ hl.1 rfl (by simp [ab_cat, ab_cI, ab_cJ, ab_cD, ab_cF]) dX8_fits_78 (fun H1 locs1 S => ?_)
  exact ab_zret X S hr hF dX8_fits_81
def f_X8_fits_136  (u0 : Int32) (h : Hp) : Option (Int32 × Hp) :=
  if u0 = 0 ∨ u0 = 1 then some (u0, h) else none
set_option maxHeartbeats 4000000 in
set_option maxRecDepth 100000 in
theorem w_X8_fits_136 {p : Program} {l : Launch} {e : Env} {s : State} {m : MethodId} {args : Array Value} {below : List Frame} {meth : Method} {c : Code} {D : va_G} {cA : Nat → ClassId} {sz : Nat} {rr : Int32} {hh : Hp}  (X : ab_X p s m args meth c cX8_fits 6 RX8 D cA sz) (hr : meth.sig.returnType = (some .boolean))  {H : Heap} {locs : List Loc} {ls : Array Slot} {u0 : Int32} {h : Hp} (S : ab_H D cA sz h s H locs) (hl : lv_has ls 6 []) (hF : f_X8_fits_136 u0 h = some (rr, hh)) : W p l e (ab_rm 1 0 0) s m args below meth c H locs 0 0 (MQ below (ab_Q D cA sz (some (.int rr)) hh) args s 0 0 (fun q => sz ≤ q)) (F0 m 136 ls [.int u0]) := by
  unfold f_X8_fits_136 at hF
  exact ab_zret X S hr hF dX8_fits_136
def f_X8_fits_135   (h : Hp) : Option (Int32 × Hp) :=
  f_X8_fits_136 0 h
set_option maxHeartbeats 4000000 in
set_option maxRecDepth 100000 in
theorem w_X8_fits_135 {p : Program} {l : Launch} {e : Env} {s : State} {m : MethodId} {args : Array Value} {below : List Frame} {meth : Method} {c : Code} {D : va_G} {cA : Nat → ClassId} {sz : Nat} {rr : Int32} {hh : Hp}  (X : ab_X p s m args meth c cX8_fits 6 RX8 D cA sz) (hr : meth.sig.returnType = (some .boolean))  {H : Heap} {locs : List Loc} {ls : Array Slot}  {h : Hp} (S : ab_H D cA sz h s H locs) (hl : lv_has ls 6 []) (hF : f_X8_fits_135  h = some (rr, hh)) : W p l e (ab_rm 1 0 0) s m args below meth c H locs 0 0 (MQ below (ab_Q D cA sz (some (.int rr)) hh) args s 0 0 (fun q => sz ≤ q)) (F0 m 135 ls []) := by
  unfold f_X8_fits_135 at hF
  refine lv_iconst (v := 0) X.1 X.2.1 dX8_fits_135 (by decide) ?_
  exact w_X8_fits_136 X hr  S (lv_sub hl [] rfl) hF
def f_X8_fits_162  (u0 : Int32) (h : Hp) : Option (Int32 × Hp) :=
  if u0 = 0 ∨ u0 = 1 then some (u0, h) else none
set_option maxHeartbeats 4000000 in
set_option maxRecDepth 100000 in
theorem w_X8_fits_162 {p : Program} {l : Launch} {e : Env} {s : State} {m : MethodId} {args : Array Value} {below : List Frame} {meth : Method} {c : Code} {D : va_G} {cA : Nat → ClassId} {sz : Nat} {rr : Int32} {hh : Hp}  (X : ab_X p s m args meth c cX8_fits 6 RX8 D cA sz) (hr : meth.sig.returnType = (some .boolean))  {H : Heap} {locs : List Loc} {ls : Array Slot} {u0 : Int32} {h : Hp} (S : ab_H D cA sz h s H locs) (hl : lv_has ls 6 []) (hF : f_X8_fits_162 u0 h = some (rr, hh)) : W p l e (ab_rm 1 0 0) s m args below meth c H locs 0 0 (MQ below (ab_Q D cA sz (some (.int rr)) hh) args s 0 0 (fun q => sz ≤ q)) (F0 m 162 ls [.int u0]) := by
  unfold f_X8_fits_162 at hF
  exact ab_zret X S hr hF dX8_fits_162
def f_X8_fits_161   (h : Hp) : Option (Int32 × Hp) :=
  f_X8_fits_162 0 h
set_option maxHeartbeats 4000000 in
set_option maxRecDepth 100000 in
theorem w_X8_fits_161 {p : Program} {l : Launch} {e : Env} {s : State} {m : MethodId} {args : Array Value} {below : List Frame} {meth : Method} {c : Code} {D : va_G} {cA : Nat → ClassId} {sz : Nat} {rr : Int32} {hh : Hp}  (X : ab_X p s m args meth c cX8_fits 6 RX8 D cA sz) (hr : meth.sig.returnType = (some .boolean))  {H : Heap} {locs : List Loc} {ls : Array Slot}  {h : Hp} (S : ab_H D cA sz h s H locs) (hl : lv_has ls 6 []) (hF : f_X8_fits_161  h = some (rr, hh)) : W p l e (ab_rm 1 0 0) s m args below meth c H locs 0 0 (MQ below (ab_Q D cA sz (some (.int rr)) hh) args s 0 0 (fun q => sz ≤ q)) (F0 m 161 ls []) := by
  unfold f_X8_fits_161 at hF
  refine lv_iconst (v := 0) X.1 X.2.1 dX8_fits_161 (by decide) ?_
  exact w_X8_fits_162 X hr  S (lv_sub hl [] rfl) hF
def f_X8_fits_190  (u0 : Int32) (h : Hp) : Option (Int32 × Hp) :=
  if u0 = 0 ∨ u0 = 1 then some (u0, h) else none
set_option maxHeartbeats 4000000 in
set_option maxRecDepth 100000 in
theorem w_X8_fits_190 {p : Program} {l : Launch} {e : Env} {s : State} {m : MethodId} {args : Array Value} {below : List Frame} {meth : Method} {c : Code} {D : va_G} {cA : Nat → ClassId} {sz : Nat} {rr : Int32} {hh : Hp}  (X : ab_X p s m args meth c cX8_fits 6 RX8 D cA sz) (hr : meth.sig.returnType = (some .boolean))  {H : Heap} {locs : List Loc} {ls : Array Slot} {u0 : Int32} {h : Hp} (S : ab_H D cA sz h s H locs) (hl : lv_has ls 6 []) (hF : f_X8_fits_190 u0 h = some (rr, hh)) : W p l e (ab_rm 1 0 0) s m args below meth c H locs 0 0 (MQ below (ab_Q D cA sz (some (.int rr)) hh) args s 0 0 (fun q => sz ≤ q)) (F0 m 190 ls [.int u0]) := by
  unfold f_X8_fits_190 at hF
  exact ab_zret X S hr hF dX8_fits_190
def f_X8_fits_189   (h : Hp) : Option (Int32 × Hp) :=
  f_X8_fits_190 0 h
set_option maxHeartbeats 4000000 in
set_option maxRecDepth 100000 in
theorem w_X8_fits_189 {p : Program} {l : Launch} {e : Env} {s : State} {m : MethodId} {args : Array Value} {below : List Frame} {meth : Method} {c : Code} {D : va_G} {cA : Nat → ClassId} {sz : Nat} {rr : Int32} {hh : Hp}  (X : ab_X p s m args meth c cX8_fits 6 RX8 D cA sz) (hr : meth.sig.returnType = (some .boolean))  {H : Heap} {locs : List Loc} {ls : Array Slot}  {h : Hp} (S : ab_H D cA sz h s H locs) (hl : lv_has ls 6 []) (hF : f_X8_fits_189  h = some (rr, hh)) : W p l e (ab_rm 1 0 0) s m args below meth c H locs 0 0 (MQ below (ab_Q D cA sz (some (.int rr)) hh) args s 0 0 (fun q => sz ≤ q)) (F0 m 189 ls []) := by
  unfold f_X8_fits_189 at hF
  refine lv_iconst (v := 0) X.1 X.2.1 dX8_fits_189 (by decide) ?_
  exact w_X8_fits_190 X hr  S (lv_sub hl [] rfl) hF
def f_X8_fits (this : Nat) (p0 : Option Nat) (p1 : Int32) (p2 : Int32) (p3 : Int32) (p4 : Int32) (h : Hp) : Option (Int32 × Hp) :=
  if p1.toInt < 0 ∨ 12 < p1.toInt then
    if 0 = 0 ∨ 0 = 1 then some (0, h) else none
  else if p1 = 0 then
    (ab_ck h p0 (1, 0)).bind fun a6 =>
    bnd (f_X1_hasVariable a6 p2 h) fun x3 h4 =>
    if x3 = 0 ∨ x3 = 1 then some (x3, h4) else none
  else if p1 = 1 then
    if 1 = 0 ∨ 1 = 1 then some (1, h) else none
  else if p1 = 2 then
    f_X8_fits_82 p0 p2 p3 h
  else if p1 = 3 then
    f_X8_fits_82 p0 p2 p3 h
  else if p1 = 4 then
    f_X8_fits_82 p0 p2 p3 h
  else if p1 = 5 then
    f_X8_fits_82 p0 p2 p3 h
  else if p1 = 6 then
    f_X8_fits_76 p0 p2 h
  else if p1 = 7 then
    f_X8_fits_76 p0 p2 h
  else if p1 = 8 then
    f_X8_fits_82 p0 p2 p3 h
  else if p1 = 9 then
    f_X8_fits_82 p0 p2 p3 h
  else if p1 = 10 then
    (ab_ck h p0 (1, 0)).bind fun a21 =>
    bnd (f_X1_hasNode a21 p2 h) fun x18 h19 =>
    if x18 = 0 then
      f_X8_fits_135 h19
    else
      (ab_ck h19 p0 (1, 0)).bind fun a27 =>
      bnd (f_X1_hasNode a27 p3 h19) fun x24 h25 =>
      if x24 = 0 then
        f_X8_fits_135 h25
      else
        (ab_ck h25 p0 (1, 0)).bind fun a33 =>
        bnd (f_X1_hasNode a33 p4 h25) fun x30 h31 =>
        if x30 = 0 then
          f_X8_fits_135 h31
        else
          f_X8_fits_136 1 h31
  else if p1 = 11 then
    (ab_ck h p0 (1, 0)).bind fun a40 =>
    bnd (f_X1_hasNode a40 p2 h) fun x37 h38 =>
    if x37 = 0 then
      f_X8_fits_161 h38
    else
      if p3 < 0 then
        f_X8_fits_161 h38
      else
        if 9 < p3 then
          f_X8_fits_161 h38
        else
          f_X8_fits_162 1 h38
  else if p1 = 12 then
    (ab_ck h p0 (1, 0)).bind fun a49 =>
    bnd (f_X1_hasNode a49 p2 h) fun x46 h47 =>
    if x46 = 0 then
      f_X8_fits_189 h47
    else
      if p3 < 0 then
        f_X8_fits_189 h47
      else
        (getI h47 (some this) 8 5).bind fun x53 =>
        if x53 ≤ p3 then
          f_X8_fits_189 h47
        else
          f_X8_fits_190 1 h47
  else none
theorem mi_X8_fits : ab_MI yX8_fits cX8_fits 6 (some .boolean) 5 := ⟨lc_yX8_fits, lz_RX8, by decide, by decide, by decide +kernel⟩
set_option maxHeartbeats 4000000 in
set_option maxRecDepth 100000 in
theorem c_X8_fits (l : Launch) (D : va_G) (cA : Nat → ClassId) (sz : Nat) {this : Nat} {p0 : Option Nat} {p1 : Int32} {p2 : Int32} {p3 : Int32} {p4 : Int32} {h hh : Hp} {rr : Int32} (hF : f_X8_fits this p0 p1 p2 p3 p4 h = some (rr, hh)) : ab_C l D cA sz yX8_fits cX8_fits 6 (some .boolean) 1 0 0 [.ref this, va_rf p0, .int p1, .int p2, .int p3, .int p4] h (some (.int rr)) hh := by
  refine Met.ofW (cc := cX8_fits) (maxL := 6) (ret := (some .boolean)) (by decide) rfl ?_
  intro p e s m args below meth c s₁ B hml hv
  obtain ⟨rfl, hT, hR⟩ := hv
  have X : ab_X p s m _ meth c cX8_fits 6 RX8 D cA sz := (ab_enter B hml hT hR).1
  have S := (ab_enter B hml hT hR).2
  have hr := B.returns
  obtain ⟨ls, hls, hl⟩ := ab_entry m [.ref this, va_rf p0, .int p1, .int p2, .int p3, .int p4] 6 (lv := [(0, .ref this), (1, va_rf p0), (2, .int p1), (3, .int p2), (4, .int p3), (5, .int p4)]) (by simp [lg_sl, ab_cat, ab_cI, ab_cJ, ab_cD, ab_cF, ab_cA]) (by simp [lv_args, ab_cat, ab_cI, ab_cJ, ab_cD, ab_cF, ab_cA])
  rw [hls]
  have hl : lv_has ls 6 [(0, va_rf (some this)), (1, va_rf p0), (2, .int p1), (3, .int p2), (4, .int p3), (5, .int p4)] := hl
  unfold f_X8_fits at hF
  show W p l e (ab_rm 1 0 0) s m _ below meth c s.heap [] 0 0 _ _
  refine lv_iload_n X.1 X.2.1 dX8_fits_0 rfl (lv_at hl 2 rfl) ?_
  by_cases c1 : p1.toInt < 0 ∨ 12 < p1.toInt
  · have hF := ab_pos c1 hF
    refine lv_tableOut (tgt := 191) X.1 X.2.1 dX8_fits_1 c1 (by decide) ?_
    refine lv_iconst (v := 0) X.1 X.2.1 dX8_fits_191 (by decide) ?_
    exact ab_zret X S hr hF dX8_fits_192
  have hF := ab_neg c1 hF
  by_cases c2 : p1 = 0
  · have hF := ab_pos c2 hF
    refine ab_tab (tgt := 68) X dX8_fits_1 c2 (by decide) (by decide) rfl (by decide) ?_
    refine ab_aload_n X dX8_fits_68 rfl (lv_at hl 1 rfl) ?_
    refine lv_iload_n X.1 X.2.1 dX8_fits_69 rfl (lv_at hl 3 rfl) ?_
    obtain ⟨a6, e7, hF⟩ := bind_out hF
    obtain ⟨x3, h4, e5, hF⟩ := bnd_out hF
    refine ab_callVi X S e7 (c_X1_hasVariable l D cA sz e5) rfl (by decide) mi_X1_hasVariable lm_X8_83 li_yX1_hasVariable ls_yX1_hasVariable (As := [.int p2]) (rest := []) rfl ⟨by decide, by decide⟩ ⟨(by decide), (by decide)⟩ hl.1 rfl (by simp [ab_cat, ab_cI, ab_cJ, ab_cD, ab_cF]) dX8_fits_70 (fun H1 locs1 S => ?_)
    exact ab_zret X S hr hF dX8_fits_73
  have hF := ab_neg c2 hF
  by_cases c8 : p1 = 1
  · have hF := ab_pos c8 hF
    refine ab_tab (tgt := 74) X dX8_fits_1 c8 (by decide) (by decide) rfl (by decide) ?_
    refine lv_iconst (v := 1) X.1 X.2.1 dX8_fits_74 (by decide) ?_
    exact ab_zret X S hr hF dX8_fits_75
  have hF := ab_neg c8 hF
  by_cases c9 : p1 = 2
  · have hF := ab_pos c9 hF
    refine ab_tab (tgt := 82) X dX8_fits_1 c9 (by decide) (by decide) rfl (by decide) ?_
    exact w_X8_fits_82 X hr  S (lv_sub hl [1, 3, 4] rfl) hF
  have hF := ab_neg c9 hF
  by_cases c10 : p1 = 3
  · have hF := ab_pos c10 hF
    refine ab_tab (tgt := 82) X dX8_fits_1 c10 (by decide) (by decide) rfl (by decide) ?_
    exact w_X8_fits_82 X hr  S (lv_sub hl [1, 3, 4] rfl) hF
  have hF := ab_neg c10 hF
  by_cases c11 : p1 = 4
  · have hF := ab_pos c11 hF
    refine ab_tab (tgt := 82) X dX8_fits_1 c11 (by decide) (by decide) rfl (by decide) ?_
    exact w_X8_fits_82 X hr  S (lv_sub hl [1, 3, 4] rfl) hF
  have hF := ab_neg c11 hF
  by_cases c12 : p1 = 5
  · have hF := ab_pos c12 hF
    refine ab_tab (tgt := 82) X dX8_fits_1 c12 (by decide) (by decide) rfl (by decide) ?_
    exact w_X8_fits_82 X hr  S (lv_sub hl [1, 3, 4] rfl) hF
  have hF := ab_neg c12 hF
  by_cases c13 : p1 = 6
  · have hF := ab_pos c13 hF
    refine ab_tab (tgt := 76) X dX8_fits_1 c13 (by decide) (by decide) rfl (by decide) ?_
    exact w_X8_fits_76 X hr  S (lv_sub hl [1, 3] rfl) hF
  have hF := ab_neg c13 hF
  by_cases c14 : p1 = 7
  · have hF := ab_pos c14 hF
    refine ab_tab (tgt := 76) X dX8_fits_1 c14 (by decide) (by decide) rfl (by decide) ?_
    exact w_X8_fits_76 X hr  S (lv_sub hl [1, 3] rfl) hF
  have hF := ab_neg c14 hF
  by_cases c15 : p1 = 8
  · have hF := ab_pos c15 hF
    refine ab_tab (tgt := 82) X dX8_fits_1 c15 (by decide) (by decide) rfl (by decide) ?_
    exact w_X8_fits_82 X hr  S (lv_sub hl [1, 3, 4] rfl) hF
  have hF := ab_neg c15 hF
  by_cases c16 : p1 = 9
  · have hF := ab_pos c16 hF
    refine ab_tab (tgt := 82) X dX8_fits_1 c16 (by decide) (by decide) rfl (by decide) ?_
    exact w_X8_fits_82 X hr  S (lv_sub hl [1, 3, 4] rfl) hF
  have hF := ab_neg c16 hF
  by_cases c17 : p1 = 10
  · have hF := ab_pos c17 hF
    refine ab_tab (tgt := 105) X dX8_fits_1 c17 (by decide) (by decide) rfl (by decide) ?_
    refine ab_aload_n X dX8_fits_105 rfl (lv_at hl 1 rfl) ?_
    refine lv_iload_n X.1 X.2.1 dX8_fits_106 rfl (lv_at hl 3 rfl) ?_
    obtain ⟨a21, e22, hF⟩ := bind_out hF
    obtain ⟨x18, h19, e20, hF⟩ := bnd_out hF
    refine ab_callVi X S e22 (c_X1_hasNode l D cA sz e20) rfl (by decide) mi_X1_hasNode lm_X8_86 li_yX1_hasNode ls_yX1_hasNode (As := [.int p2]) (rest := []) rfl ⟨by decide, by decide⟩ ⟨(by decide), (by decide)⟩ hl.1 rfl (by simp [ab_cat, ab_cI, ab_cJ, ab_cD, ab_cF]) dX8_fits_107 (fun H1 locs1 S => ?_)
    refine lv_if_eq (tgt := 135) X.1 X.2.1 dX8_fits_110 (by decide) (fun c23 => ?_) (fun c23 => ?_)
    · have hF := ab_pos c23 hF
      exact w_X8_fits_135 X hr  S (lv_sub hl [] rfl) hF
    · have hF := ab_neg c23 hF
      refine ab_aload_n X dX8_fits_113 rfl (lv_at hl 1 rfl) ?_
      refine lv_iload X.1 X.2.1 dX8_fits_114 (lv_at hl 4 rfl) ?_
      obtain ⟨a27, e28, hF⟩ := bind_out hF
      obtain ⟨x24, h25, e26, hF⟩ := bnd_out hF
      refine ab_callVi X S e28 (c_X1_hasNode l D cA sz e26) rfl (by decide) mi_X1_hasNode lm_X8_86 li_yX1_hasNode ls_yX1_hasNode (As := [.int p3]) (rest := []) rfl ⟨by decide, by decide⟩ ⟨(by decide), (by decide)⟩ hl.1 rfl (by simp [ab_cat, ab_cI, ab_cJ, ab_cD, ab_cF]) dX8_fits_116 (fun H1 locs1 S => ?_)
      refine lv_if_eq (tgt := 135) X.1 X.2.1 dX8_fits_119 (by decide) (fun c29 => ?_) (fun c29 => ?_)
      · have hF := ab_pos c29 hF
        exact w_X8_fits_135 X hr  S (lv_sub hl [] rfl) hF
      · have hF := ab_neg c29 hF
        refine ab_aload_n X dX8_fits_122 rfl (lv_at hl 1 rfl) ?_
        refine lv_iload X.1 X.2.1 dX8_fits_123 (lv_at hl 5 rfl) ?_
        obtain ⟨a33, e34, hF⟩ := bind_out hF
        obtain ⟨x30, h31, e32, hF⟩ := bnd_out hF
        refine ab_callVi X S e34 (c_X1_hasNode l D cA sz e32) rfl (by decide) mi_X1_hasNode lm_X8_86 li_yX1_hasNode ls_yX1_hasNode (As := [.int p4]) (rest := []) rfl ⟨by decide, by decide⟩ ⟨(by decide), (by decide)⟩ hl.1 rfl (by simp [ab_cat, ab_cI, ab_cJ, ab_cD, ab_cF]) dX8_fits_125 (fun H1 locs1 S => ?_)
        refine lv_if_eq (tgt := 135) X.1 X.2.1 dX8_fits_128 (by decide) (fun c35 => ?_) (fun c35 => ?_)
        · have hF := ab_pos c35 hF
          exact w_X8_fits_135 X hr  S (lv_sub hl [] rfl) hF
        · have hF := ab_neg c35 hF
          refine lv_iconst (v := 1) X.1 X.2.1 dX8_fits_131 (by decide) ?_
          refine lv_goto (tgt := 136) X.1 X.2.1 dX8_fits_132 (by decide) ?_
          exact w_X8_fits_136 X hr  S (lv_sub hl [] rfl) hF
  have hF := ab_neg c17 hF
  by_cases c36 : p1 = 11
  · have hF := ab_pos c36 hF
    refine ab_tab (tgt := 137) X dX8_fits_1 c36 (by decide) (by decide) rfl (by decide) ?_
    refine ab_aload_n X dX8_fits_137 rfl (lv_at hl 1 rfl) ?_
    refine lv_iload_n X.1 X.2.1 dX8_fits_138 rfl (lv_at hl 3 rfl) ?_
    obtain ⟨a40, e41, hF⟩ := bind_out hF
    obtain ⟨x37, h38, e39, hF⟩ := bnd_out hF
    refine ab_callVi X S e41 (c_X1_hasNode l D cA sz e39) rfl (by decide) mi_X1_hasNode lm_X8_86 li_yX1_hasNode ls_yX1_hasNode (As := [.int p2]) (rest := []) rfl ⟨by decide, by decide⟩ ⟨(by decide), (by decide)⟩ hl.1 rfl (by simp [ab_cat, ab_cI, ab_cJ, ab_cD, ab_cF]) dX8_fits_139 (fun H1 locs1 S => ?_)
    refine lv_if_eq (tgt := 161) X.1 X.2.1 dX8_fits_142 (by decide) (fun c42 => ?_) (fun c42 => ?_)
    · have hF := ab_pos c42 hF
      exact w_X8_fits_161 X hr  S (lv_sub hl [] rfl) hF
    · have hF := ab_neg c42 hF
      refine lv_iload X.1 X.2.1 dX8_fits_145 (lv_at hl 4 rfl) ?_
      refine lv_if_lt (tgt := 161) X.1 X.2.1 dX8_fits_147 (by decide) (fun c43 => ?_) (fun c43 => ?_)
      · have hF := ab_pos c43 hF
        exact w_X8_fits_161 X hr  S (lv_sub hl [] rfl) hF
      · have hF := ab_neg c43 hF
        refine lv_iload X.1 X.2.1 dX8_fits_150 (lv_at hl 4 rfl) ?_
        refine lv_bipush (v := 9) X.1 X.2.1 dX8_fits_152 (by decide) ?_
        refine lv_icmp_gt (tgt := 161) X.1 X.2.1 dX8_fits_154 (by decide) (fun c44 => ?_) (fun c44 => ?_)
        · have hF := ab_pos c44 hF
          exact w_X8_fits_161 X hr  S (lv_sub hl [] rfl) hF
        · have hF := ab_neg c44 hF
          refine lv_iconst (v := 1) X.1 X.2.1 dX8_fits_157 (by decide) ?_
          refine lv_goto (tgt := 162) X.1 X.2.1 dX8_fits_158 (by decide) ?_
          exact w_X8_fits_162 X hr  S (lv_sub hl [] rfl) hF
  have hF := ab_neg c36 hF
  by_cases c45 : p1 = 12
  · have hF := ab_pos c45 hF
    refine ab_tab (tgt := 163) X dX8_fits_1 c45 (by decide) (by decide) rfl (by decide) ?_
    refine ab_aload_n X dX8_fits_163 rfl (lv_at hl 1 rfl) ?_
    refine lv_iload_n X.1 X.2.1 dX8_fits_164 rfl (lv_at hl 3 rfl) ?_
    obtain ⟨a49, e50, hF⟩ := bind_out hF
    obtain ⟨x46, h47, e48, hF⟩ := bnd_out hF
    refine ab_callVi X S e50 (c_X1_hasNode l D cA sz e48) rfl (by decide) mi_X1_hasNode lm_X8_86 li_yX1_hasNode ls_yX1_hasNode (As := [.int p2]) (rest := []) rfl ⟨by decide, by decide⟩ ⟨(by decide), (by decide)⟩ hl.1 rfl (by simp [ab_cat, ab_cI, ab_cJ, ab_cD, ab_cF]) dX8_fits_165 (fun H1 locs1 S => ?_)
    refine lv_if_eq (tgt := 189) X.1 X.2.1 dX8_fits_168 (by decide) (fun c51 => ?_) (fun c51 => ?_)
    · have hF := ab_pos c51 hF
      exact w_X8_fits_189 X hr  S (lv_sub hl [] rfl) hF
    · have hF := ab_neg c51 hF
      refine lv_iload X.1 X.2.1 dX8_fits_171 (lv_at hl 4 rfl) ?_
      refine lv_if_lt (tgt := 189) X.1 X.2.1 dX8_fits_173 (by decide) (fun c52 => ?_) (fun c52 => ?_)
      · have hF := ab_pos c52 hF
        exact w_X8_fits_189 X hr  S (lv_sub hl [] rfl) hF
      · have hF := ab_neg c52 hF
        refine lv_iload X.1 X.2.1 dX8_fits_176 (lv_at hl 4 rfl) ?_
        refine ab_aload_n X dX8_fits_178 rfl (lv_at hl 0 rfl) ?_
        refine ab_getI X S hF fi_8_5 lf_X8_100 dX8_fits_179 (fun x53 hF => ?_)
        refine lv_icmp_ge (tgt := 189) X.1 X.2.1 dX8_fits_182 (by decide) (fun c54 => ?_) (fun c54 => ?_)
        · have hF := ab_pos c54 hF
          exact w_X8_fits_189 X hr  S (lv_sub hl [] rfl) hF
        · have hF := ab_neg c54 hF
          refine lv_iconst (v := 1) X.1 X.2.1 dX8_fits_185 (by decide) ?_
          refine lv_goto (tgt := 190) X.1 X.2.1 dX8_fits_186 (by decide) ?_
          exact w_X8_fits_190 X hr  S (lv_sub hl [] rfl) hF
  have hF := ab_neg c45 hF
  cases hF
def f_X8_grown_66  (u0 : UInt64) (h : Hp) : Option (UInt64 × Hp) :=
  some (u0, h)
set_option maxHeartbeats 4000000 in
set_option maxRecDepth 100000 in
theorem w_X8_grown_66 {p : Program} {l : Launch} {e : Env} {s : State} {m : MethodId} {args : Array Value} {below : List Frame} {meth : Method} {c : Code} {D : va_G} {cA : Nat → ClassId} {sz : Nat} {rr : UInt64} {hh : Hp}  (X : ab_X p s m args meth c cX8_grown 6 RX8 D cA sz) (hr : meth.sig.returnType = (some .double))  {H : Heap} {locs : List Loc} {ls : Array Slot} {u0 : UInt64} {h : Hp} (S : ab_H D cA sz h s H locs) (hl : lv_has ls 6 []) (hF : f_X8_grown_66 u0 h = some (rr, hh)) : W p l e (ab_rm 0 0 0) s m args below meth c H locs 0 0 (MQ below (ab_Q D cA sz (some (.double rr)) hh) args s 0 0 (fun q => sz ≤ q)) (F0 m 66 ls [.double u0]) := by
  unfold f_X8_grown_66 at hF
  exact ab_dret X S hr hF dX8_grown_66
def f_X8_grown_36  (v4 : UInt64) (h : Hp) : Option (UInt64 × Hp) :=
  if (Op.cmpValue (FP.dcmp v4 4652218415073722368) CmpOp.l) ≤ 0 then
    if 0 ≤ (Op.cmpValue (FP.dcmp v4 13875590451928498176) CmpOp.g) then
      f_X8_grown_66 v4 h
    else
      f_X8_grown_66 13875590451928498176 h
  else
    some (4652218415073722368, h)
set_option maxHeartbeats 4000000 in
set_option maxRecDepth 100000 in
theorem w_X8_grown_36 {p : Program} {l : Launch} {e : Env} {s : State} {m : MethodId} {args : Array Value} {below : List Frame} {meth : Method} {c : Code} {D : va_G} {cA : Nat → ClassId} {sz : Nat} {rr : UInt64} {hh : Hp}  (X : ab_X p s m args meth c cX8_grown 6 RX8 D cA sz) (hr : meth.sig.returnType = (some .double))  {H : Heap} {locs : List Loc} {ls : Array Slot} {v4 : UInt64} {h : Hp} (S : ab_H D cA sz h s H locs) (hl : lv_has ls 6 [(4, .double v4)]) (hF : f_X8_grown_36 v4 h = some (rr, hh)) : W p l e (ab_rm 0 0 0) s m args below meth c H locs 0 0 (MQ below (ab_Q D cA sz (some (.double rr)) hh) args s 0 0 (fun q => sz ≤ q)) (F0 m 36 ls []) := by
  unfold f_X8_grown_36 at hF
  refine lv_dload X.1 X.2.1 dX8_grown_36 (lv_at hl 0 rfl) ?_
  refine lv_ldc2d (v := 4652218415073722368) X.1 X.2.1 X.2.2.2.1 (X.2.2.2.2.1 _ ld_X8_150) dX8_grown_38 ?_
  refine lv_dcmp X.1 X.2.1 dX8_grown_41 ?_
  refine lv_if_le (tgt := 49) X.1 X.2.1 dX8_grown_42 (by decide) (fun c1 => ?_) (fun c1 => ?_)
  · have hF := ab_pos c1 hF
    refine lv_dload X.1 X.2.1 dX8_grown_49 (lv_at hl 0 rfl) ?_
    refine lv_ldc2d (v := 13875590451928498176) X.1 X.2.1 X.2.2.2.1 (X.2.2.2.2.1 _ ld_X8_315) dX8_grown_51 ?_
    refine lv_dcmp X.1 X.2.1 dX8_grown_54 ?_
    refine lv_if_ge (tgt := 64) X.1 X.2.1 dX8_grown_55 (by decide) (fun c2 => ?_) (fun c2 => ?_)
    · have hF := ab_pos c2 hF
      refine lv_dload X.1 X.2.1 dX8_grown_64 (lv_at hl 0 rfl) ?_
      exact w_X8_grown_66 X hr  S (lv_sub hl [] rfl) hF
    · have hF := ab_neg c2 hF
      refine lv_ldc2d (v := 13875590451928498176) X.1 X.2.1 X.2.2.2.1 (X.2.2.2.2.1 _ ld_X8_315) dX8_grown_58 ?_
      refine lv_goto (tgt := 66) X.1 X.2.1 dX8_grown_61 (by decide) ?_
      exact w_X8_grown_66 X hr  S (lv_sub hl [] rfl) hF
  · have hF := ab_neg c1 hF
    refine lv_ldc2d (v := 4652218415073722368) X.1 X.2.1 X.2.2.2.1 (X.2.2.2.2.1 _ ld_X8_150) dX8_grown_45 ?_
    exact ab_dret X S hr hF dX8_grown_48
def f_X8_grown (p0 : UInt64) (p1 : UInt64) (h : Hp) : Option (UInt64 × Hp) :=
  if 0 < (Op.cmpValue (FP.dcmp p1 4580160821035794432) CmpOp.g) then
    if 0 < (Op.cmpValue (FP.dcmp p1 4593671619917905920) CmpOp.g) then
      f_X8_grown_36 p0 h
    else
      (fop (FP.dmul p0 4611686018427387904)).bind fun x3 =>
      f_X8_grown_36 x3 h
  else
    (fop (FP.dmul p0 4616189618054758400)).bind fun x4 =>
    f_X8_grown_36 x4 h
theorem mi_X8_grown : ab_MI yX8_grown cX8_grown 6 (some .double) 2 := ⟨lc_yX8_grown, lz_RX8, by decide, by decide, by decide +kernel⟩
set_option maxHeartbeats 4000000 in
set_option maxRecDepth 100000 in
theorem c_X8_grown (l : Launch) (D : va_G) (cA : Nat → ClassId) (sz : Nat) {p0 : UInt64} {p1 : UInt64} {h hh : Hp} {rr : UInt64} (hF : f_X8_grown p0 p1 h = some (rr, hh)) : ab_C l D cA sz yX8_grown cX8_grown 6 (some .double) 0 0 0 [.double p0, .double p1] h (some (.double rr)) hh := by
  refine Met.ofW (cc := cX8_grown) (maxL := 6) (ret := (some .double)) (by decide) rfl ?_
  intro p e s m args below meth c s₁ B hml hv
  obtain ⟨rfl, hT, hR⟩ := hv
  have X : ab_X p s m _ meth c cX8_grown 6 RX8 D cA sz := (ab_enter B hml hT hR).1
  have S := (ab_enter B hml hT hR).2
  have hr := B.returns
  obtain ⟨ls, hls, hl⟩ := ab_entry m [.double p0, .double p1] 6 (lv := [(0, .double p0), (2, .double p1)]) (by simp [lg_sl, ab_cat, ab_cI, ab_cJ, ab_cD, ab_cF, ab_cA]) (by simp [lv_args, ab_cat, ab_cI, ab_cJ, ab_cD, ab_cF, ab_cA])
  rw [hls]
  have hl : lv_has ls 6 [(0, .double p0), (2, .double p1)] := hl
  unfold f_X8_grown at hF
  show W p l e (ab_rm 0 0 0) s m _ below meth c s.heap [] 0 0 _ _
  refine lv_dload_n X.1 X.2.1 dX8_grown_0 rfl (lv_at hl 0 rfl) ?_
  refine lv_dstore (lv' := [(4, .double p0), (0, .double p0), (2, .double p1)]) X.1 X.2.1 dX8_grown_1 hl (by decide) (by simp [ab_cat, ab_cI, ab_cJ, ab_cD, ab_cF]) (fun ls hl => ?_)
  refine lv_dload_n X.1 X.2.1 dX8_grown_3 rfl (lv_at hl 2 rfl) ?_
  refine lv_ldc2d (v := 4580160821035794432) X.1 X.2.1 X.2.2.2.1 (X.2.2.2.2.1 _ ld_X8_311) dX8_grown_4 ?_
  refine lv_dcmp X.1 X.2.1 dX8_grown_7 ?_
  refine lv_if_gt (tgt := 21) X.1 X.2.1 dX8_grown_8 (by decide) (fun c1 => ?_) (fun c1 => ?_)
  · have hF := ab_pos c1 hF
    refine lv_dload_n X.1 X.2.1 dX8_grown_21 rfl (lv_at hl 2 rfl) ?_
    refine lv_ldc2d (v := 4593671619917905920) X.1 X.2.1 X.2.2.2.1 (X.2.2.2.2.1 _ ld_X8_313) dX8_grown_22 ?_
    refine lv_dcmp X.1 X.2.1 dX8_grown_25 ?_
    refine lv_if_gt (tgt := 36) X.1 X.2.1 dX8_grown_26 (by decide) (fun c2 => ?_) (fun c2 => ?_)
    · have hF := ab_pos c2 hF
      exact w_X8_grown_36 X hr  S (lv_sub hl [0] rfl) hF
    · have hF := ab_neg c2 hF
      refine lv_dload_n X.1 X.2.1 dX8_grown_29 rfl (lv_at hl 1 rfl) ?_
      refine lv_ldc2d (v := 4611686018427387904) X.1 X.2.1 X.2.2.2.1 (X.2.2.2.2.1 _ ld_X8_263) dX8_grown_30 ?_
      obtain ⟨x3, ev, ne, hF⟩ := ab_fopx hF
      refine lv_dmul X.1 X.2.1 dX8_grown_33 ne ?_
      rw [ev]
      refine lv_dstore (lv' := [(4, .double x3), (0, .double p0), (2, .double p1)]) X.1 X.2.1 dX8_grown_34 hl (by decide) (by simp [ab_cat, ab_cI, ab_cJ, ab_cD, ab_cF]) (fun ls hl => ?_)
      exact w_X8_grown_36 X hr  S (lv_sub hl [0] rfl) hF
  · have hF := ab_neg c1 hF
    refine lv_dload_n X.1 X.2.1 dX8_grown_11 rfl (lv_at hl 1 rfl) ?_
    refine lv_ldc2d (v := 4616189618054758400) X.1 X.2.1 X.2.2.2.1 (X.2.2.2.2.1 _ ld_X8_301) dX8_grown_12 ?_
    obtain ⟨x4, ev, ne, hF⟩ := ab_fopx hF
    refine lv_dmul X.1 X.2.1 dX8_grown_15 ne ?_
    rw [ev]
    refine lv_dstore (lv' := [(4, .double x4), (0, .double p0), (2, .double p1)]) X.1 X.2.1 dX8_grown_16 hl (by decide) (by simp [ab_cat, ab_cI, ab_cJ, ab_cD, ab_cF]) (fun ls hl => ?_)
    refine lv_goto (tgt := 36) X.1 X.2.1 dX8_grown_18 (by decide) ?_
    exact w_X8_grown_36 X hr  S (lv_sub hl [0] rfl) hF
def f_X9_init_469  : Nat → Option Nat → Int32 → Hp → Option (Unit × Hp)
  | 0, _, _, _ => none
  | n + 1, v0, v1, h => if 48 ≤ v1 then
      some ((), h)
    else
      (getR h v0 9 3).bind fun x2 =>
      (astI h x2 v1 (-1)).bind fun h3 =>
      f_X9_init_469 n v0 (v1 + 1) h3
set_option maxHeartbeats 4000000 in
set_option maxRecDepth 100000 in
theorem w_X9_init_469 {p : Program} {l : Launch} {e : Env} {s : State} {m : MethodId} {args : Array Value} {below : List Frame} {meth : Method} {c : Code} {D : va_G} {cA : Nat → ClassId} {sz : Nat}  {hh : Hp}  (X : ab_X p s m args meth c cX9_init 2 RX9 D cA sz) (hr : meth.sig.returnType = none) (hin : meth.name = "<init>")  (n : Nat) : ∀ (v0 : Option Nat) (v1 : Int32) (h : Hp) (H : Heap) (locs : List Loc) (ls : Array Slot), ab_H D cA sz h s H locs → lv_has ls 2 [(0, va_rf v0), (1, .int v1)] → f_X9_init_469 n v0 v1 h = some ((), hh) → W p l e (ab_rm 1 57 57000) s m args below meth c H locs 57 57000 (MQ below (ab_Q D cA sz none hh) args s 57 57000 (fun q => sz ≤ q)) (F0 m 469 ls []) := by
  induction n with
  | zero => intro v0 v1 h H locs ls S hl hF; cases hF
  | succ n ih =>
    intro v0 v1 h H locs ls S hl hF
    rw [f_X9_init_469] at hF
    refine lv_iload_n X.1 X.2.1 dX9_init_469 rfl (lv_at hl 1 rfl) ?_
    refine lv_bipush (v := 48) X.1 X.2.1 dX9_init_470 (by decide) ?_
    refine lv_icmp_ge (tgt := 488) X.1 X.2.1 dX9_init_472 (by decide) (fun c1 => ?_) (fun c1 => ?_)
    · have hF := ab_pos c1 hF
      refine W.widen (k := 57) (n := 57000) (Nat.le_of_ble_eq_true rfl) (Nat.le_of_ble_eq_true rfl) ?_
      exact ab_vret X S hr hF dX9_init_488
    · have hF := ab_neg c1 hF
      refine ab_aload_n X dX9_init_475 rfl (lv_at hl 0 rfl) ?_
      refine ab_getR X S hF fi_9_3 lf_X9_21 dX9_init_476 (fun x2 hF => ?_)
      refine lv_iload_n X.1 X.2.1 dX9_init_479 rfl (lv_at hl 1 rfl) ?_
      refine lv_iconst (v := (-1)) X.1 X.2.1 dX9_init_480 (by decide) ?_
      refine ab_astI X S hF dX9_init_481 (fun h3 H1 locs1 hF S => ?_)
      refine lv_iinc (v := v1 + 1) (lv' := [(1, .int (v1 + 1)), (0, va_rf v0)]) X.1 X.2.1 dX9_init_482 hl (k := 1) rfl (by rfl) (by decide) (by simp [ab_cat, ab_cI, ab_cJ, ab_cD, ab_cF]) (fun ls hl => ?_)
      refine lv_goto (tgt := 469) X.1 X.2.1 dX9_init_485 (by decide) ?_
      refine W.widen (k := 57) (n := 57000) (Nat.le_of_ble_eq_true rfl) (Nat.le_of_ble_eq_true rfl) ?_
      exact ih _ _ _ _ _ _ S (lv_sub hl [1, 0] rfl) hF
def f_X9_init (this : Nat) (h : Hp) : Option (Unit × Hp) :=
  bnd (newa h 11 8) fun x2 h1 =>
  (putR h1 (some this) 9 0 x2).bind fun h3 =>
  bnd (newa h3 11 8) fun x5 h4 =>
  (putR h4 (some this) 9 1 x5).bind fun h6 =>
  bnd (newa h6 11 8) fun x8 h7 =>
  (putR h7 (some this) 9 2 x8).bind fun h9 =>
  bnd (newa h9 11 48) fun x11 h10 =>
  (putR h10 (some this) 9 3 x11).bind fun h12 =>
  bnd (newa h12 11 384) fun x14 h13 =>
  (putR h13 (some this) 9 4 x14).bind fun h15 =>
  bnd (newa h15 11 384) fun x17 h16 =>
  (putR h16 (some this) 9 5 x17).bind fun h18 =>
  bnd (newa h18 11 384) fun x20 h19 =>
  (putR h19 (some this) 9 6 x20).bind fun h21 =>
  bnd (newa h21 11 384) fun x23 h22 =>
  (putR h22 (some this) 9 7 x23).bind fun h24 =>
  bnd (newa h24 10 384) fun x26 h25 =>
  (putR h25 (some this) 9 8 x26).bind fun h27 =>
  bnd (newa h27 11 8) fun x29 h28 =>
  (putR h28 (some this) 9 10 x29).bind fun h30 =>
  bnd (newa h30 11 8) fun x32 h31 =>
  (putR h31 (some this) 9 11 x32).bind fun h33 =>
  bnd (newa h33 10 128) fun x35 h34 =>
  (putR h34 (some this) 9 12 x35).bind fun h36 =>
  bnd (newa h36 10 128) fun x38 h37 =>
  (putR h37 (some this) 9 13 x38).bind fun h39 =>
  bnd (newa h39 11 9) fun x41 h40 =>
  (putR h40 (some this) 9 15 x41).bind fun h42 =>
  bnd (newa h42 11 9) fun x44 h43 =>
  (putR h43 (some this) 9 16 x44).bind fun h45 =>
  bnd (newa h45 11 9) fun x47 h46 =>
  (putR h46 (some this) 9 17 x47).bind fun h48 =>
  bnd (newa h48 11 9) fun x50 h49 =>
  (putR h49 (some this) 9 18 x50).bind fun h51 =>
  bnd (newa h51 11 9) fun x53 h52 =>
  (putR h52 (some this) 9 19 x53).bind fun h54 =>
  bnd (newa h54 11 9) fun x56 h55 =>
  (putR h55 (some this) 9 20 x56).bind fun h57 =>
  bnd (newa h57 11 9) fun x59 h58 =>
  (putR h58 (some this) 9 21 x59).bind fun h60 =>
  bnd (newa h60 12 9) fun x62 h61 =>
  (putR h61 (some this) 9 22 x62).bind fun h63 =>
  bnd (newa h63 12 9) fun x65 h64 =>
  (putR h64 (some this) 9 23 x65).bind fun h66 =>
  bnd (newa h66 12 4) fun x68 h67 =>
  (putR h67 (some this) 9 24 x68).bind fun h69 =>
  bnd (newa h69 10 9) fun x71 h70 =>
  (putR h70 (some this) 9 25 x71).bind fun h72 =>
  bnd (newa h72 10 9) fun x74 h73 =>
  (putR h73 (some this) 9 26 x74).bind fun h75 =>
  bnd (newa h75 10 9) fun x77 h76 =>
  (putR h76 (some this) 9 27 x77).bind fun h78 =>
  bnd (newa h78 10 9) fun x80 h79 =>
  (putR h79 (some this) 9 28 x80).bind fun h81 =>
  bnd (newa h81 10 9) fun x83 h82 =>
  (putR h82 (some this) 9 29 x83).bind fun h84 =>
  bnd (newa h84 10 54) fun x86 h85 =>
  (putR h85 (some this) 9 30 x86).bind fun h87 =>
  bnd (newa h87 11 36) fun x89 h88 =>
  (putR h88 (some this) 9 31 x89).bind fun h90 =>
  bnd (newa h90 11 36) fun x92 h91 =>
  (putR h91 (some this) 9 32 x92).bind fun h93 =>
  bnd (newa h93 11 36) fun x95 h94 =>
  (putR h94 (some this) 9 33 x95).bind fun h96 =>
  bnd (newa h96 11 36) fun x98 h97 =>
  (putR h97 (some this) 9 34 x98).bind fun h99 =>
  bnd (newa h99 11 576) fun x101 h100 =>
  (putR h100 (some this) 9 35 x101).bind fun h102 =>
  bnd (newa h102 10 576) fun x104 h103 =>
  (putR h103 (some this) 9 36 x104).bind fun h105 =>
  bnd (newa h105 11 9) fun x107 h106 =>
  (putR h106 (some this) 9 37 x107).bind fun h108 =>
  bnd (newa h108 10 9) fun x110 h109 =>
  (putR h109 (some this) 9 38 x110).bind fun h111 =>
  bnd (newa h111 10 9) fun x113 h112 =>
  (putR h112 (some this) 9 39 x113).bind fun h114 =>
  bnd (newa h114 10 54) fun x116 h115 =>
  (putR h115 (some this) 9 40 x116).bind fun h117 =>
  bnd (newa h117 10 54) fun x119 h118 =>
  (putR h118 (some this) 9 41 x119).bind fun h120 =>
  bnd (newa h120 10 54) fun x122 h121 =>
  (putR h121 (some this) 9 42 x122).bind fun h123 =>
  bnd (newa h123 10 54) fun x125 h124 =>
  (putR h124 (some this) 9 43 x125).bind fun h126 =>
  bnd (newa h126 10 270) fun x128 h127 =>
  (putR h127 (some this) 9 44 x128).bind fun h129 =>
  bnd (newa h129 10 48) fun x131 h130 =>
  (putR h130 (some this) 9 46 x131).bind fun h132 =>
  bnd (newa h132 10 6) fun x134 h133 =>
  (putR h133 (some this) 9 47 x134).bind fun h135 =>
  bnd (newa h135 10 6) fun x137 h136 =>
  (putR h136 (some this) 9 48 x137).bind fun h138 =>
  bnd (newa h138 10 6) fun x140 h139 =>
  (putR h139 (some this) 9 49 x140).bind fun h141 =>
  bnd (newa h141 10 6) fun x143 h142 =>
  (putR h142 (some this) 9 50 x143).bind fun h144 =>
  bnd (newa h144 10 6) fun x146 h145 =>
  (putR h145 (some this) 9 51 x146).bind fun h147 =>
  bnd (newa h147 10 6) fun x149 h148 =>
  (putR h148 (some this) 9 52 x149).bind fun h150 =>
  bnd (newa h150 10 6) fun x152 h151 =>
  (putR h151 (some this) 9 53 x152).bind fun h153 =>
  bnd (newa h153 10 6) fun x155 h154 =>
  (putR h154 (some this) 9 54 x155).bind fun h156 =>
  bnd (newa h156 10 6) fun x158 h157 =>
  (putR h157 (some this) 9 55 x158).bind fun h159 =>
  bnd (newa h159 10 6) fun x161 h160 =>
  (putR h160 (some this) 9 56 x161).bind fun h162 =>
  bnd (newa h162 10 6) fun x164 h163 =>
  (putR h163 (some this) 9 57 x164).bind fun h165 =>
  bnd (newa h165 10 4) fun x167 h166 =>
  (putR h166 (some this) 9 58 x167).bind fun h168 =>
  bnd (newa h168 12 4) fun x170 h169 =>
  (putR h169 (some this) 9 59 x170).bind fun h171 =>
  f_X9_init_469 fuelN (some this) 0 h171
theorem mi_X9_init : ab_MI yX9_init cX9_init 2 none 0 := ⟨lc_yX9_init, lz_RX9, by decide, by decide, by decide +kernel⟩
set_option maxHeartbeats 4000000 in
set_option maxRecDepth 100000 in
theorem c_X9_init (l : Launch) (D : va_G) (cA : Nat → ClassId) (sz : Nat) {this : Nat} {h hh : Hp}  (hF : f_X9_init this h = some ((), hh)) : ab_C l D cA sz yX9_init cX9_init 2 none 1 57 57000 [.ref this] h none hh := by
  refine Met.ofW (cc := cX9_init) (maxL := 2) (ret := none) (by decide) rfl ?_
  intro p e s m args below meth c s₁ B hml hv
  obtain ⟨rfl, hT, hR⟩ := hv
  have X : ab_X p s m _ meth c cX9_init 2 RX9 D cA sz := (ab_enter B hml hT hR).1
  have S := (ab_enter B hml hT hR).2
  have hr := B.returns
  obtain ⟨ls, hls, hl⟩ := ab_entry m [.ref this] 2 (lv := [(0, .ref this)]) (by simp [lg_sl, ab_cat, ab_cI, ab_cJ, ab_cD, ab_cF, ab_cA]) (by simp [lv_args, ab_cat, ab_cI, ab_cJ, ab_cD, ab_cF, ab_cA])
  rw [hls]
  have hl : lv_has ls 2 [(0, va_rf (some this))] := hl
  have hin : meth.name = "<init>" := (name_of_methodNamed B.named B.method).1
  unfold f_X9_init at hF
  show W p l e (ab_rm 1 57 57000) s m _ below meth c s.heap [] 0 0 _ _
  refine ab_aload_n X dX9_init_0 rfl (lv_at hl 0 rfl) ?_
  refine ab_objInit X lm_X9_3 hl.1 (by decide) (by simp [ab_cat, ab_cI, ab_cJ, ab_cD, ab_cF]) dX9_init_1 ?_
  refine ab_aload_n X dX9_init_4 rfl (lv_at hl 0 rfl) ?_
  refine lv_bipush (v := 8) X.1 X.2.1 dX9_init_5 (by decide) ?_
  refine ab_newI X S hF la_int (by decide) (by decide) dX9_init_7 (fun x2 h1 H1 hF S => ?_)
  refine ab_putR X S hF fi_9_0 ci_9 (Or.inr ⟨rfl, hin, rfl⟩) (fun q => by cases q <;> rfl) (fun q => by cases q <;> rfl) lf_X9_9 dX9_init_9 (fun h3 H1 locs1 hF S => ?_)
  refine ab_aload_n X dX9_init_12 rfl (lv_at hl 0 rfl) ?_
  refine lv_bipush (v := 8) X.1 X.2.1 dX9_init_13 (by decide) ?_
  refine ab_newI X S hF la_int (by decide) (by decide) dX9_init_15 (fun x5 h4 H1 hF S => ?_)
  refine ab_putR X S hF fi_9_1 ci_9 (Or.inr ⟨rfl, hin, rfl⟩) (fun q => by cases q <;> rfl) (fun q => by cases q <;> rfl) lf_X9_15 dX9_init_17 (fun h6 H1 locs1 hF S => ?_)
  refine ab_aload_n X dX9_init_20 rfl (lv_at hl 0 rfl) ?_
  refine lv_bipush (v := 8) X.1 X.2.1 dX9_init_21 (by decide) ?_
  refine ab_newI X S hF la_int (by decide) (by decide) dX9_init_23 (fun x8 h7 H1 hF S => ?_)
  refine ab_putR X S hF fi_9_2 ci_9 (Or.inr ⟨rfl, hin, rfl⟩) (fun q => by cases q <;> rfl) (fun q => by cases q <;> rfl) lf_X9_18 dX9_init_25 (fun h9 H1 locs1 hF S => ?_)
  refine ab_aload_n X dX9_init_28 rfl (lv_at hl 0 rfl) ?_
  refine lv_bipush (v := 48) X.1 X.2.1 dX9_init_29 (by decide) ?_
  refine ab_newI X S hF la_int (by decide) (by decide) dX9_init_31 (fun x11 h10 H1 hF S => ?_)
  refine ab_putR X S hF fi_9_3 ci_9 (Or.inr ⟨rfl, hin, rfl⟩) (fun q => by cases q <;> rfl) (fun q => by cases q <;> rfl) lf_X9_21 dX9_init_33 (fun h12 H1 locs1 hF S => ?_)
  refine ab_aload_n X dX9_init_36 rfl (lv_at hl 0 rfl) ?_
  refine lv_sipush (v := 384) X.1 X.2.1 dX9_init_37 (by decide) ?_
  refine ab_newI X S hF la_int (by decide) (by decide) dX9_init_40 (fun x14 h13 H1 hF S => ?_)
  refine ab_putR X S hF fi_9_4 ci_9 (Or.inr ⟨rfl, hin, rfl⟩) (fun q => by cases q <;> rfl) (fun q => by cases q <;> rfl) lf_X9_24 dX9_init_42 (fun h15 H1 locs1 hF S => ?_)
  refine ab_aload_n X dX9_init_45 rfl (lv_at hl 0 rfl) ?_
  refine lv_sipush (v := 384) X.1 X.2.1 dX9_init_46 (by decide) ?_
  refine ab_newI X S hF la_int (by decide) (by decide) dX9_init_49 (fun x17 h16 H1 hF S => ?_)
  refine ab_putR X S hF fi_9_5 ci_9 (Or.inr ⟨rfl, hin, rfl⟩) (fun q => by cases q <;> rfl) (fun q => by cases q <;> rfl) lf_X9_27 dX9_init_51 (fun h18 H1 locs1 hF S => ?_)
  refine ab_aload_n X dX9_init_54 rfl (lv_at hl 0 rfl) ?_
  refine lv_sipush (v := 384) X.1 X.2.1 dX9_init_55 (by decide) ?_
  refine ab_newI X S hF la_int (by decide) (by decide) dX9_init_58 (fun x20 h19 H1 hF S => ?_)
  refine ab_putR X S hF fi_9_6 ci_9 (Or.inr ⟨rfl, hin, rfl⟩) (fun q => by cases q <;> rfl) (fun q => by cases q <;> rfl) lf_X9_30 dX9_init_60 (fun h21 H1 locs1 hF S => ?_)
  refine ab_aload_n X dX9_init_63 rfl (lv_at hl 0 rfl) ?_
  refine lv_sipush (v := 384) X.1 X.2.1 dX9_init_64 (by decide) ?_
  refine ab_newI X S hF la_int (by decide) (by decide) dX9_init_67 (fun x23 h22 H1 hF S => ?_)
  refine ab_putR X S hF fi_9_7 ci_9 (Or.inr ⟨rfl, hin, rfl⟩) (fun q => by cases q <;> rfl) (fun q => by cases q <;> rfl) lf_X9_33 dX9_init_69 (fun h24 H1 locs1 hF S => ?_)
  refine ab_aload_n X dX9_init_72 rfl (lv_at hl 0 rfl) ?_
  refine lv_sipush (v := 384) X.1 X.2.1 dX9_init_73 (by decide) ?_
  refine ab_newD X S hF la_double (by decide) (by decide) dX9_init_76 (fun x26 h25 H1 hF S => ?_)
  refine ab_putR X S hF fi_9_8 ci_9 (Or.inr ⟨rfl, hin, rfl⟩) (fun q => by cases q <;> rfl) (fun q => by cases q <;> rfl) lf_X9_36 dX9_init_78 (fun h27 H1 locs1 hF S => ?_)
  refine ab_aload_n X dX9_init_81 rfl (lv_at hl 0 rfl) ?_
  refine lv_bipush (v := 8) X.1 X.2.1 dX9_init_82 (by decide) ?_
  refine ab_newI X S hF la_int (by decide) (by decide) dX9_init_84 (fun x29 h28 H1 hF S => ?_)
  refine ab_putR X S hF fi_9_10 ci_9 (Or.inr ⟨rfl, hin, rfl⟩) (fun q => by cases q <;> rfl) (fun q => by cases q <;> rfl) lf_X9_40 dX9_init_86 (fun h30 H1 locs1 hF S => ?_)
  refine ab_aload_n X dX9_init_89 rfl (lv_at hl 0 rfl) ?_
  refine lv_bipush (v := 8) X.1 X.2.1 dX9_init_90 (by decide) ?_
  refine ab_newI X S hF la_int (by decide) (by decide) dX9_init_92 (fun x32 h31 H1 hF S => ?_)
  refine ab_putR X S hF fi_9_11 ci_9 (Or.inr ⟨rfl, hin, rfl⟩) (fun q => by cases q <;> rfl) (fun q => by cases q <;> rfl) lf_X9_43 dX9_init_94 (fun h33 H1 locs1 hF S => ?_)
  refine ab_aload_n X dX9_init_97 rfl (lv_at hl 0 rfl) ?_
  refine lv_sipush (v := 128) X.1 X.2.1 dX9_init_98 (by decide) ?_
  refine ab_newD X S hF la_double (by decide) (by decide) dX9_init_101 (fun x35 h34 H1 hF S => ?_)
  refine ab_putR X S hF fi_9_12 ci_9 (Or.inr ⟨rfl, hin, rfl⟩) (fun q => by cases q <;> rfl) (fun q => by cases q <;> rfl) lf_X9_46 dX9_init_103 (fun h36 H1 locs1 hF S => ?_)
  refine ab_aload_n X dX9_init_106 rfl (lv_at hl 0 rfl) ?_
  refine lv_sipush (v := 128) X.1 X.2.1 dX9_init_107 (by decide) ?_
  refine ab_newD X S hF la_double (by decide) (by decide) dX9_init_110 (fun x38 h37 H1 hF S => ?_)
  refine ab_putR X S hF fi_9_13 ci_9 (Or.inr ⟨rfl, hin, rfl⟩) (fun q => by cases q <;> rfl) (fun q => by cases q <;> rfl) lf_X9_49 dX9_init_112 (fun h39 H1 locs1 hF S => ?_)
  refine ab_aload_n X dX9_init_115 rfl (lv_at hl 0 rfl) ?_
  refine lv_bipush (v := 9) X.1 X.2.1 dX9_init_116 (by decide) ?_
  refine ab_newI X S hF la_int (by decide) (by decide) dX9_init_118 (fun x41 h40 H1 hF S => ?_)
  refine ab_putR X S hF fi_9_15 ci_9 (Or.inr ⟨rfl, hin, rfl⟩) (fun q => by cases q <;> rfl) (fun q => by cases q <;> rfl) lf_X9_52 dX9_init_120 (fun h42 H1 locs1 hF S => ?_)
  refine ab_aload_n X dX9_init_123 rfl (lv_at hl 0 rfl) ?_
  refine lv_bipush (v := 9) X.1 X.2.1 dX9_init_124 (by decide) ?_
  refine ab_newI X S hF la_int (by decide) (by decide) dX9_init_126 (fun x44 h43 H1 hF S => ?_)
  refine ab_putR X S hF fi_9_16 ci_9 (Or.inr ⟨rfl, hin, rfl⟩) (fun q => by cases q <;> rfl) (fun q => by cases q <;> rfl) lf_X9_55 dX9_init_128 (fun h45 H1 locs1 hF S => ?_)
  refine ab_aload_n X dX9_init_131 rfl (lv_at hl 0 rfl) ?_
  refine lv_bipush (v := 9) X.1 X.2.1 dX9_init_132 (by decide) ?_
  refine ab_newI X S hF la_int (by decide) (by decide) dX9_init_134 (fun x47 h46 H1 hF S => ?_)
  refine ab_putR X S hF fi_9_17 ci_9 (Or.inr ⟨rfl, hin, rfl⟩) (fun q => by cases q <;> rfl) (fun q => by cases q <;> rfl) lf_X9_58 dX9_init_136 (fun h48 H1 locs1 hF S => ?_)
  refine ab_aload_n X dX9_init_139 rfl (lv_at hl 0 rfl) ?_
  refine lv_bipush (v := 9) X.1 X.2.1 dX9_init_140 (by decide) ?_
  refine ab_newI X S hF la_int (by decide) (by decide) dX9_init_142 (fun x50 h49 H1 hF S => ?_)
  refine ab_putR X S hF fi_9_18 ci_9 (Or.inr ⟨rfl, hin, rfl⟩) (fun q => by cases q <;> rfl) (fun q => by cases q <;> rfl) lf_X9_61 dX9_init_144 (fun h51 H1 locs1 hF S => ?_)
  refine ab_aload_n X dX9_init_147 rfl (lv_at hl 0 rfl) ?_
  refine lv_bipush (v := 9) X.1 X.2.1 dX9_init_148 (by decide) ?_
  refine ab_newI X S hF la_int (by decide) (by decide) dX9_init_150 (fun x53 h52 H1 hF S => ?_)
  refine ab_putR X S hF fi_9_19 ci_9 (Or.inr ⟨rfl, hin, rfl⟩) (fun q => by cases q <;> rfl) (fun q => by cases q <;> rfl) lf_X9_64 dX9_init_152 (fun h54 H1 locs1 hF S => ?_)
  refine ab_aload_n X dX9_init_155 rfl (lv_at hl 0 rfl) ?_
  refine lv_bipush (v := 9) X.1 X.2.1 dX9_init_156 (by decide) ?_
  refine ab_newI X S hF la_int (by decide) (by decide) dX9_init_158 (fun x56 h55 H1 hF S => ?_)
  refine ab_putR X S hF fi_9_20 ci_9 (Or.inr ⟨rfl, hin, rfl⟩) (fun q => by cases q <;> rfl) (fun q => by cases q <;> rfl) lf_X9_67 dX9_init_160 (fun h57 H1 locs1 hF S => ?_)
  refine ab_aload_n X dX9_init_163 rfl (lv_at hl 0 rfl) ?_
  refine lv_bipush (v := 9) X.1 X.2.1 dX9_init_164 (by decide) ?_
  refine ab_newI X S hF la_int (by decide) (by decide) dX9_init_166 (fun x59 h58 H1 hF S => ?_)
  refine ab_putR X S hF fi_9_21 ci_9 (Or.inr ⟨rfl, hin, rfl⟩) (fun q => by cases q <;> rfl) (fun q => by cases q <;> rfl) lf_X9_70 dX9_init_168 (fun h60 H1 locs1 hF S => ?_)
  refine ab_aload_n X dX9_init_171 rfl (lv_at hl 0 rfl) ?_
  refine lv_bipush (v := 9) X.1 X.2.1 dX9_init_172 (by decide) ?_
  refine ab_newZ X S hF la_boolean (by decide) (by decide) dX9_init_174 (fun x62 h61 H1 hF S => ?_)
  refine ab_putR X S hF fi_9_22 ci_9 (Or.inr ⟨rfl, hin, rfl⟩) (fun q => by cases q <;> rfl) (fun q => by cases q <;> rfl) lf_X9_73 dX9_init_176 (fun h63 H1 locs1 hF S => ?_)
  refine ab_aload_n X dX9_init_179 rfl (lv_at hl 0 rfl) ?_
  refine lv_bipush (v := 9) X.1 X.2.1 dX9_init_180 (by decide) ?_
  refine ab_newZ X S hF la_boolean (by decide) (by decide) dX9_init_182 (fun x65 h64 H1 hF S => ?_)
  refine ab_putR X S hF fi_9_23 ci_9 (Or.inr ⟨rfl, hin, rfl⟩) (fun q => by cases q <;> rfl) (fun q => by cases q <;> rfl) lf_X9_77 dX9_init_184 (fun h66 H1 locs1 hF S => ?_)
  refine ab_aload_n X dX9_init_187 rfl (lv_at hl 0 rfl) ?_
  refine lv_iconst (v := 4) X.1 X.2.1 dX9_init_188 (by decide) ?_
  refine ab_newZ X S hF la_boolean (by decide) (by decide) dX9_init_189 (fun x68 h67 H1 hF S => ?_)
  refine ab_putR X S hF fi_9_24 ci_9 (Or.inr ⟨rfl, hin, rfl⟩) (fun q => by cases q <;> rfl) (fun q => by cases q <;> rfl) lf_X9_80 dX9_init_191 (fun h69 H1 locs1 hF S => ?_)
  refine ab_aload_n X dX9_init_194 rfl (lv_at hl 0 rfl) ?_
  refine lv_bipush (v := 9) X.1 X.2.1 dX9_init_195 (by decide) ?_
  refine ab_newD X S hF la_double (by decide) (by decide) dX9_init_197 (fun x71 h70 H1 hF S => ?_)
  refine ab_putR X S hF fi_9_25 ci_9 (Or.inr ⟨rfl, hin, rfl⟩) (fun q => by cases q <;> rfl) (fun q => by cases q <;> rfl) lf_X9_83 dX9_init_199 (fun h72 H1 locs1 hF S => ?_)
  refine ab_aload_n X dX9_init_202 rfl (lv_at hl 0 rfl) ?_
  refine lv_bipush (v := 9) X.1 X.2.1 dX9_init_203 (by decide) ?_
  refine ab_newD X S hF la_double (by decide) (by decide) dX9_init_205 (fun x74 h73 H1 hF S => ?_)
  refine ab_putR X S hF fi_9_26 ci_9 (Or.inr ⟨rfl, hin, rfl⟩) (fun q => by cases q <;> rfl) (fun q => by cases q <;> rfl) lf_X9_86 dX9_init_207 (fun h75 H1 locs1 hF S => ?_)
  refine ab_aload_n X dX9_init_210 rfl (lv_at hl 0 rfl) ?_
  refine lv_bipush (v := 9) X.1 X.2.1 dX9_init_211 (by decide) ?_
  refine ab_newD X S hF la_double (by decide) (by decide) dX9_init_213 (fun x77 h76 H1 hF S => ?_)
  refine ab_putR X S hF fi_9_27 ci_9 (Or.inr ⟨rfl, hin, rfl⟩) (fun q => by cases q <;> rfl) (fun q => by cases q <;> rfl) lf_X9_89 dX9_init_215 (fun h78 H1 locs1 hF S => ?_)
  refine ab_aload_n X dX9_init_218 rfl (lv_at hl 0 rfl) ?_
  refine lv_bipush (v := 9) X.1 X.2.1 dX9_init_219 (by decide) ?_
  refine ab_newD X S hF la_double (by decide) (by decide) dX9_init_221 (fun x80 h79 H1 hF S => ?_)
  refine ab_putR X S hF fi_9_28 ci_9 (Or.inr ⟨rfl, hin, rfl⟩) (fun q => by cases q <;> rfl) (fun q => by cases q <;> rfl) lf_X9_92 dX9_init_223 (fun h81 H1 locs1 hF S => ?_)
  refine ab_aload_n X dX9_init_226 rfl (lv_at hl 0 rfl) ?_
  refine lv_bipush (v := 9) X.1 X.2.1 dX9_init_227 (by decide) ?_
  refine ab_newD X S hF la_double (by decide) (by decide) dX9_init_229 (fun x83 h82 H1 hF S => ?_)
  refine ab_putR X S hF fi_9_29 ci_9 (Or.inr ⟨rfl, hin, rfl⟩) (fun q => by cases q <;> rfl) (fun q => by cases q <;> rfl) lf_X9_95 dX9_init_231 (fun h84 H1 locs1 hF S => ?_)
  refine ab_aload_n X dX9_init_234 rfl (lv_at hl 0 rfl) ?_
  refine lv_bipush (v := 54) X.1 X.2.1 dX9_init_235 (by decide) ?_
  refine ab_newD X S hF la_double (by decide) (by decide) dX9_init_237 (fun x86 h85 H1 hF S => ?_)
  refine ab_putR X S hF fi_9_30 ci_9 (Or.inr ⟨rfl, hin, rfl⟩) (fun q => by cases q <;> rfl) (fun q => by cases q <;> rfl) lf_X9_98 dX9_init_239 (fun h87 H1 locs1 hF S => ?_)
  refine ab_aload_n X dX9_init_242 rfl (lv_at hl 0 rfl) ?_
  refine lv_bipush (v := 36) X.1 X.2.1 dX9_init_243 (by decide) ?_
  refine ab_newI X S hF la_int (by decide) (by decide) dX9_init_245 (fun x89 h88 H1 hF S => ?_)
  refine ab_putR X S hF fi_9_31 ci_9 (Or.inr ⟨rfl, hin, rfl⟩) (fun q => by cases q <;> rfl) (fun q => by cases q <;> rfl) lf_X9_101 dX9_init_247 (fun h90 H1 locs1 hF S => ?_)
  refine ab_aload_n X dX9_init_250 rfl (lv_at hl 0 rfl) ?_
  refine lv_bipush (v := 36) X.1 X.2.1 dX9_init_251 (by decide) ?_
  refine ab_newI X S hF la_int (by decide) (by decide) dX9_init_253 (fun x92 h91 H1 hF S => ?_)
  refine ab_putR X S hF fi_9_32 ci_9 (Or.inr ⟨rfl, hin, rfl⟩) (fun q => by cases q <;> rfl) (fun q => by cases q <;> rfl) lf_X9_104 dX9_init_255 (fun h93 H1 locs1 hF S => ?_)
  refine ab_aload_n X dX9_init_258 rfl (lv_at hl 0 rfl) ?_
  refine lv_bipush (v := 36) X.1 X.2.1 dX9_init_259 (by decide) ?_
  refine ab_newI X S hF la_int (by decide) (by decide) dX9_init_261 (fun x95 h94 H1 hF S => ?_)
  refine ab_putR X S hF fi_9_33 ci_9 (Or.inr ⟨rfl, hin, rfl⟩) (fun q => by cases q <;> rfl) (fun q => by cases q <;> rfl) lf_X9_107 dX9_init_263 (fun h96 H1 locs1 hF S => ?_)
  refine ab_aload_n X dX9_init_266 rfl (lv_at hl 0 rfl) ?_
  refine lv_bipush (v := 36) X.1 X.2.1 dX9_init_267 (by decide) ?_
  refine ab_newI X S hF la_int (by decide) (by decide) dX9_init_269 (fun x98 h97 H1 hF S => ?_)
  refine ab_putR X S hF fi_9_34 ci_9 (Or.inr ⟨rfl, hin, rfl⟩) (fun q => by cases q <;> rfl) (fun q => by cases q <;> rfl) lf_X9_110 dX9_init_271 (fun h99 H1 locs1 hF S => ?_)
  refine ab_aload_n X dX9_init_274 rfl (lv_at hl 0 rfl) ?_
  refine lv_sipush (v := 576) X.1 X.2.1 dX9_init_275 (by decide) ?_
  refine ab_newI X S hF la_int (by decide) (by decide) dX9_init_278 (fun x101 h100 H1 hF S => ?_)
  refine ab_putR X S hF fi_9_35 ci_9 (Or.inr ⟨rfl, hin, rfl⟩) (fun q => by cases q <;> rfl) (fun q => by cases q <;> rfl) lf_X9_113 dX9_init_280 (fun h102 H1 locs1 hF S => ?_)
  refine ab_aload_n X dX9_init_283 rfl (lv_at hl 0 rfl) ?_
  refine lv_sipush (v := 576) X.1 X.2.1 dX9_init_284 (by decide) ?_
  refine ab_newD X S hF la_double (by decide) (by decide) dX9_init_287 (fun x104 h103 H1 hF S => ?_)
  refine ab_putR X S hF fi_9_36 ci_9 (Or.inr ⟨rfl, hin, rfl⟩) (fun q => by cases q <;> rfl) (fun q => by cases q <;> rfl) lf_X9_116 dX9_init_289 (fun h105 H1 locs1 hF S => ?_)
  refine ab_aload_n X dX9_init_292 rfl (lv_at hl 0 rfl) ?_
  refine lv_bipush (v := 9) X.1 X.2.1 dX9_init_293 (by decide) ?_
  refine ab_newI X S hF la_int (by decide) (by decide) dX9_init_295 (fun x107 h106 H1 hF S => ?_)
  refine ab_putR X S hF fi_9_37 ci_9 (Or.inr ⟨rfl, hin, rfl⟩) (fun q => by cases q <;> rfl) (fun q => by cases q <;> rfl) lf_X9_119 dX9_init_297 (fun h108 H1 locs1 hF S => ?_)
  refine ab_aload_n X dX9_init_300 rfl (lv_at hl 0 rfl) ?_
  refine lv_bipush (v := 9) X.1 X.2.1 dX9_init_301 (by decide) ?_
  refine ab_newD X S hF la_double (by decide) (by decide) dX9_init_303 (fun x110 h109 H1 hF S => ?_)
  refine ab_putR X S hF fi_9_38 ci_9 (Or.inr ⟨rfl, hin, rfl⟩) (fun q => by cases q <;> rfl) (fun q => by cases q <;> rfl) lf_X9_122 dX9_init_305 (fun h111 H1 locs1 hF S => ?_)
  refine ab_aload_n X dX9_init_308 rfl (lv_at hl 0 rfl) ?_
  refine lv_bipush (v := 9) X.1 X.2.1 dX9_init_309 (by decide) ?_
  refine ab_newD X S hF la_double (by decide) (by decide) dX9_init_311 (fun x113 h112 H1 hF S => ?_)
  refine ab_putR X S hF fi_9_39 ci_9 (Or.inr ⟨rfl, hin, rfl⟩) (fun q => by cases q <;> rfl) (fun q => by cases q <;> rfl) lf_X9_125 dX9_init_313 (fun h114 H1 locs1 hF S => ?_)
  refine ab_aload_n X dX9_init_316 rfl (lv_at hl 0 rfl) ?_
  refine lv_bipush (v := 54) X.1 X.2.1 dX9_init_317 (by decide) ?_
  refine ab_newD X S hF la_double (by decide) (by decide) dX9_init_319 (fun x116 h115 H1 hF S => ?_)
  refine ab_putR X S hF fi_9_40 ci_9 (Or.inr ⟨rfl, hin, rfl⟩) (fun q => by cases q <;> rfl) (fun q => by cases q <;> rfl) lf_X9_128 dX9_init_321 (fun h117 H1 locs1 hF S => ?_)
  refine ab_aload_n X dX9_init_324 rfl (lv_at hl 0 rfl) ?_
  refine lv_bipush (v := 54) X.1 X.2.1 dX9_init_325 (by decide) ?_
  refine ab_newD X S hF la_double (by decide) (by decide) dX9_init_327 (fun x119 h118 H1 hF S => ?_)
  refine ab_putR X S hF fi_9_41 ci_9 (Or.inr ⟨rfl, hin, rfl⟩) (fun q => by cases q <;> rfl) (fun q => by cases q <;> rfl) lf_X9_131 dX9_init_329 (fun h120 H1 locs1 hF S => ?_)
  refine ab_aload_n X dX9_init_332 rfl (lv_at hl 0 rfl) ?_
  refine lv_bipush (v := 54) X.1 X.2.1 dX9_init_333 (by decide) ?_
  refine ab_newD X S hF la_double (by decide) (by decide) dX9_init_335 (fun x122 h121 H1 hF S => ?_)
  refine ab_putR X S hF fi_9_42 ci_9 (Or.inr ⟨rfl, hin, rfl⟩) (fun q => by cases q <;> rfl) (fun q => by cases q <;> rfl) lf_X9_134 dX9_init_337 (fun h123 H1 locs1 hF S => ?_)
  refine ab_aload_n X dX9_init_340 rfl (lv_at hl 0 rfl) ?_
  refine lv_bipush (v := 54) X.1 X.2.1 dX9_init_341 (by decide) ?_
  refine ab_newD X S hF la_double (by decide) (by decide) dX9_init_343 (fun x125 h124 H1 hF S => ?_)
  refine ab_putR X S hF fi_9_43 ci_9 (Or.inr ⟨rfl, hin, rfl⟩) (fun q => by cases q <;> rfl) (fun q => by cases q <;> rfl) lf_X9_137 dX9_init_345 (fun h126 H1 locs1 hF S => ?_)
  refine ab_aload_n X dX9_init_348 rfl (lv_at hl 0 rfl) ?_
  refine lv_sipush (v := 270) X.1 X.2.1 dX9_init_349 (by decide) ?_
  refine ab_newD X S hF la_double (by decide) (by decide) dX9_init_352 (fun x128 h127 H1 hF S => ?_)
  refine ab_putR X S hF fi_9_44 ci_9 (Or.inr ⟨rfl, hin, rfl⟩) (fun q => by cases q <;> rfl) (fun q => by cases q <;> rfl) lf_X9_140 dX9_init_354 (fun h129 H1 locs1 hF S => ?_)
  refine ab_aload_n X dX9_init_357 rfl (lv_at hl 0 rfl) ?_
  refine lv_bipush (v := 48) X.1 X.2.1 dX9_init_358 (by decide) ?_
  refine ab_newD X S hF la_double (by decide) (by decide) dX9_init_360 (fun x131 h130 H1 hF S => ?_)
  refine ab_putR X S hF fi_9_46 ci_9 (Or.inr ⟨rfl, hin, rfl⟩) (fun q => by cases q <;> rfl) (fun q => by cases q <;> rfl) lf_X9_143 dX9_init_362 (fun h132 H1 locs1 hF S => ?_)
  refine ab_aload_n X dX9_init_365 rfl (lv_at hl 0 rfl) ?_
  refine lv_bipush (v := 6) X.1 X.2.1 dX9_init_366 (by decide) ?_
  refine ab_newD X S hF la_double (by decide) (by decide) dX9_init_368 (fun x134 h133 H1 hF S => ?_)
  refine ab_putR X S hF fi_9_47 ci_9 (Or.inr ⟨rfl, hin, rfl⟩) (fun q => by cases q <;> rfl) (fun q => by cases q <;> rfl) lf_X9_146 dX9_init_370 (fun h135 H1 locs1 hF S => ?_)
  refine ab_aload_n X dX9_init_373 rfl (lv_at hl 0 rfl) ?_
  refine lv_bipush (v := 6) X.1 X.2.1 dX9_init_374 (by decide) ?_
  refine ab_newD X S hF la_double (by decide) (by decide) dX9_init_376 (fun x137 h136 H1 hF S => ?_)
  refine ab_putR X S hF fi_9_48 ci_9 (Or.inr ⟨rfl, hin, rfl⟩) (fun q => by cases q <;> rfl) (fun q => by cases q <;> rfl) lf_X9_149 dX9_init_378 (fun h138 H1 locs1 hF S => ?_)
  refine ab_aload_n X dX9_init_381 rfl (lv_at hl 0 rfl) ?_
  refine lv_bipush (v := 6) X.1 X.2.1 dX9_init_382 (by decide) ?_
  refine ab_newD X S hF la_double (by decide) (by decide) dX9_init_384 (fun x140 h139 H1 hF S => ?_)
  refine ab_putR X S hF fi_9_49 ci_9 (Or.inr ⟨rfl, hin, rfl⟩) (fun q => by cases q <;> rfl) (fun q => by cases q <;> rfl) lf_X9_152 dX9_init_386 (fun h141 H1 locs1 hF S => ?_)
  refine ab_aload_n X dX9_init_389 rfl (lv_at hl 0 rfl) ?_
  refine lv_bipush (v := 6) X.1 X.2.1 dX9_init_390 (by decide) ?_
  refine ab_newD X S hF la_double (by decide) (by decide) dX9_init_392 (fun x143 h142 H1 hF S => ?_)
  refine ab_putR X S hF fi_9_50 ci_9 (Or.inr ⟨rfl, hin, rfl⟩) (fun q => by cases q <;> rfl) (fun q => by cases q <;> rfl) lf_X9_155 dX9_init_394 (fun h144 H1 locs1 hF S => ?_)
  refine ab_aload_n X dX9_init_397 rfl (lv_at hl 0 rfl) ?_
  refine lv_bipush (v := 6) X.1 X.2.1 dX9_init_398 (by decide) ?_
  refine ab_newD X S hF la_double (by decide) (by decide) dX9_init_400 (fun x146 h145 H1 hF S => ?_)
  refine ab_putR X S hF fi_9_51 ci_9 (Or.inr ⟨rfl, hin, rfl⟩) (fun q => by cases q <;> rfl) (fun q => by cases q <;> rfl) lf_X9_158 dX9_init_402 (fun h147 H1 locs1 hF S => ?_)
  refine ab_aload_n X dX9_init_405 rfl (lv_at hl 0 rfl) ?_
  refine lv_bipush (v := 6) X.1 X.2.1 dX9_init_406 (by decide) ?_
  refine ab_newD X S hF la_double (by decide) (by decide) dX9_init_408 (fun x149 h148 H1 hF S => ?_)
  refine ab_putR X S hF fi_9_52 ci_9 (Or.inr ⟨rfl, hin, rfl⟩) (fun q => by cases q <;> rfl) (fun q => by cases q <;> rfl) lf_X9_161 dX9_init_410 (fun h150 H1 locs1 hF S => ?_)
  refine ab_aload_n X dX9_init_413 rfl (lv_at hl 0 rfl) ?_
  refine lv_bipush (v := 6) X.1 X.2.1 dX9_init_414 (by decide) ?_
  refine ab_newD X S hF la_double (by decide) (by decide) dX9_init_416 (fun x152 h151 H1 hF S => ?_)
  refine ab_putR X S hF fi_9_53 ci_9 (Or.inr ⟨rfl, hin, rfl⟩) (fun q => by cases q <;> rfl) (fun q => by cases q <;> rfl) lf_X9_164 dX9_init_418 (fun h153 H1 locs1 hF S => ?_)
  refine ab_aload_n X dX9_init_421 rfl (lv_at hl 0 rfl) ?_
  refine lv_bipush (v := 6) X.1 X.2.1 dX9_init_422 (by decide) ?_
  refine ab_newD X S hF la_double (by decide) (by decide) dX9_init_424 (fun x155 h154 H1 hF S => ?_)
  refine ab_putR X S hF fi_9_54 ci_9 (Or.inr ⟨rfl, hin, rfl⟩) (fun q => by cases q <;> rfl) (fun q => by cases q <;> rfl) lf_X9_167 dX9_init_426 (fun h156 H1 locs1 hF S => ?_)
  refine ab_aload_n X dX9_init_429 rfl (lv_at hl 0 rfl) ?_
  refine lv_bipush (v := 6) X.1 X.2.1 dX9_init_430 (by decide) ?_
  refine ab_newD X S hF la_double (by decide) (by decide) dX9_init_432 (fun x158 h157 H1 hF S => ?_)
  refine ab_putR X S hF fi_9_55 ci_9 (Or.inr ⟨rfl, hin, rfl⟩) (fun q => by cases q <;> rfl) (fun q => by cases q <;> rfl) lf_X9_170 dX9_init_434 (fun h159 H1 locs1 hF S => ?_)
  refine ab_aload_n X dX9_init_437 rfl (lv_at hl 0 rfl) ?_
  refine lv_bipush (v := 6) X.1 X.2.1 dX9_init_438 (by decide) ?_
  refine ab_newD X S hF la_double (by decide) (by decide) dX9_init_440 (fun x161 h160 H1 hF S => ?_)
  refine ab_putR X S hF fi_9_56 ci_9 (Or.inr ⟨rfl, hin, rfl⟩) (fun q => by cases q <;> rfl) (fun q => by cases q <;> rfl) lf_X9_173 dX9_init_442 (fun h162 H1 locs1 hF S => ?_)
  refine ab_aload_n X dX9_init_445 rfl (lv_at hl 0 rfl) ?_
  refine lv_bipush (v := 6) X.1 X.2.1 dX9_init_446 (by decide) ?_
  refine ab_newD X S hF la_double (by decide) (by decide) dX9_init_448 (fun x164 h163 H1 hF S => ?_)
  refine ab_putR X S hF fi_9_57 ci_9 (Or.inr ⟨rfl, hin, rfl⟩) (fun q => by cases q <;> rfl) (fun q => by cases q <;> rfl) lf_X9_176 dX9_init_450 (fun h165 H1 locs1 hF S => ?_)
  refine ab_aload_n X dX9_init_453 rfl (lv_at hl 0 rfl) ?_
  refine lv_iconst (v := 4) X.1 X.2.1 dX9_init_454 (by decide) ?_
  refine ab_newD X S hF la_double (by decide) (by decide) dX9_init_455 (fun x167 h166 H1 hF S => ?_)
  refine ab_putR X S hF fi_9_58 ci_9 (Or.inr ⟨rfl, hin, rfl⟩) (fun q => by cases q <;> rfl) (fun q => by cases q <;> rfl) lf_X9_179 dX9_init_457 (fun h168 H1 locs1 hF S => ?_)
  refine ab_aload_n X dX9_init_460 rfl (lv_at hl 0 rfl) ?_
  refine lv_iconst (v := 4) X.1 X.2.1 dX9_init_461 (by decide) ?_
  refine ab_newZ X S hF la_boolean (by decide) (by decide) dX9_init_462 (fun x170 h169 H1 hF S => ?_)
  refine ab_putR X S hF fi_9_59 ci_9 (Or.inr ⟨rfl, hin, rfl⟩) (fun q => by cases q <;> rfl) (fun q => by cases q <;> rfl) lf_X9_182 dX9_init_464 (fun h171 H1 locs1 hF S => ?_)
  refine lv_iconst (v := 0) X.1 X.2.1 dX9_init_467 (by decide) ?_
  refine lv_istore_n (i := 1) (lv' := [(1, .int 0), (0, va_rf (some this))]) X.1 X.2.1 dX9_init_468 rfl hl (by decide) (by simp [ab_cat, ab_cI, ab_cJ, ab_cD, ab_cF]) (fun ls hl => ?_)
  refine W.widen (k := 57) (n := 57000) (Nat.le_of_ble_eq_true rfl) (Nat.le_of_ble_eq_true rfl) ?_
  exact w_X9_init_469 X hr hin  fuelN _ _ _ _ _ _ S (lv_sub hl [1, 0] rfl) hF
