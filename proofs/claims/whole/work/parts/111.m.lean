def f_X8_run_20   (h : Hp) : Option (Int32 × Hp) :=
  some ((-1), h)
set_option maxHeartbeats 4000000 in
set_option maxRecDepth 100000 in
theorem w_X8_run_20 {p : Program} {l : Launch} {e : Env} {s : State} {m : MethodId} {args : Array Value} {below : List Frame} {meth : Method} {c : Code} {D : va_G} {cA : Nat → ClassId} {sz : Nat} {rr : Int32} {hh : Hp}  (X : ab_X p s m args meth c cX8_run 6 RX8 D cA sz) (hr : meth.sig.returnType = (some .int))  {H : Heap} {locs : List Loc} {ls : Array Slot}  {h : Hp} (S : ab_H D cA sz h s H locs) (hl : lv_has ls 6 []) (hF : f_X8_run_20  h = some (rr, hh)) : W p l e (ab_rm 4 44 30057) s m args below meth c H locs 0 0 (MQ below (ab_Q D cA sz (some (.int rr)) hh) args s 44 30057 (fun q => sz ≤ q)) (F0 m 20 ls []) := by
  unfold f_X8_run_20 at hF
  refine lv_iconst (v := (-1)) X.1 X.2.1 dX8_run_20 (by decide) ?_
  refine W.widen (k := 44) (n := 30057) (Nat.le_of_ble_eq_true rfl) (Nat.le_of_ble_eq_true rfl) ?_
  exact ab_iret X S hr hF dX8_run_21
def f_X8_run (this : Nat) (p0 : Int32) (p1 : Int64) (p2 : Int32) (h : Hp) : Option (Int32 × Hp) :=
  (ab_ck h (some this) (8, 0)).bind fun a4 =>
  bnd (f_X8_lawAt a4 p0 h) fun x1 h2 =>
  if x1 = none then
    f_X8_run_20 h2
  else
    bnd (f_X8_isK p2 h2) fun x7 h8 =>
    if ¬ x7 = 0 then
      (ab_ck h8 x1 (1, 0)).bind fun a14 =>
      bnd (f_X1_isReady a14 h8) fun x11 h12 =>
      if ¬ x11 = 0 then
        (getI h12 (some this) 8 7).bind fun x17 =>
        if x17 < 4 then
          (getR h12 (some this) 8 6).bind fun x19 =>
          (getI h12 (some this) 8 7).bind fun x20 =>
          newo h12 4 fun q22 h21 =>
          bnd (f_X8_quotient p1 p2 h21) fun x23 h24 =>
          (getR h24 (some this) 8 0).bind fun x26 =>
          bnd (f_X4_init q22 x1 x23 x26 h24) fun _ h28 =>
          (astR h28 x19 15 x20 (some q22)).bind fun h30 =>
          (getI h30 (some this) 8 7).bind fun x31 =>
          (putI h30 (some this) 8 7 (x31 + 1)).bind fun h32 =>
          (getI h32 (some this) 8 7).bind fun x33 =>
          some (x33 - 1, h32)
        else
          some ((-3), h12)
      else
        some ((-2), h12)
    else
      f_X8_run_20 h8
theorem mi_X8_run : ab_MI yX8_run cX8_run 6 (some .int) 3 := ⟨lc_yX8_run, lz_RX8, by decide, by decide, by decide +kernel⟩
set_option maxHeartbeats 4000000 in
set_option maxRecDepth 100000 in
theorem c_X8_run (l : Launch) (D : va_G) (cA : Nat → ClassId) (sz : Nat) {this : Nat} {p0 : Int32} {p1 : Int64} {p2 : Int32} {h hh : Hp} {rr : Int32} (hF : f_X8_run this p0 p1 p2 h = some (rr, hh)) : ab_C l D cA sz yX8_run cX8_run 6 (some .int) 4 44 30057 [.ref this, .int p0, .long p1, .int p2] h (some (.int rr)) hh := by
  refine Met.ofW (cc := cX8_run) (maxL := 6) (ret := (some .int)) (by decide) rfl ?_
  intro p e s m args below meth c s₁ B hml hv
  obtain ⟨rfl, hT, hR⟩ := hv
  have X : ab_X p s m _ meth c cX8_run 6 RX8 D cA sz := (ab_enter B hml hT hR).1
  have S := (ab_enter B hml hT hR).2
  have hr := B.returns
  obtain ⟨ls, hls, hl⟩ := ab_entry m [.ref this, .int p0, .long p1, .int p2] 6 (lv := [(0, .ref this), (1, .int p0), (2, .long p1), (4, .int p2)]) (by simp [lg_sl, ab_cat, ab_cI, ab_cJ, ab_cD, ab_cF, ab_cA]) (by simp [lv_args, ab_cat, ab_cI, ab_cJ, ab_cD, ab_cF, ab_cA])
  rw [hls]
  have hl : lv_has ls 6 [(0, va_rf (some this)), (1, .int p0), (2, .long p1), (4, .int p2)] := hl
  unfold f_X8_run at hF
  show W p l e (ab_rm 4 44 30057) s m _ below meth c s.heap [] 0 0 _ _
  refine ab_aload_n X dX8_run_0 rfl (lv_at hl 0 rfl) ?_
  refine lv_iload_n X.1 X.2.1 dX8_run_1 rfl (lv_at hl 1 rfl) ?_
  obtain ⟨a4, e5, hF⟩ := bind_out hF
  obtain ⟨x1, h2, e3, hF⟩ := bnd_out hF
  refine ab_callVa X S e5 (c_X8_lawAt l D cA sz e3) rfl (by decide) mi_X8_lawAt lm_X8_63 li_yX8_lawAt ls_yX8_lawAt (As := [.int p0]) (rest := []) rfl ⟨by decide, by decide⟩ ⟨(by decide), (by decide)⟩ hl.1 rfl (by simp [ab_cat, ab_cI, ab_cJ, ab_cD, ab_cF]) dX8_run_2 (fun H1 locs1 S => ?_)
  refine ab_astore (lv' := [(5, va_rf x1), (0, va_rf (some this)), (1, .int p0), (2, .long p1), (4, .int p2)]) X dX8_run_5 hl (by decide) (by simp [ab_cat, ab_cI, ab_cJ, ab_cD, ab_cF]) (fun ls hl => ?_)
  refine ab_aload X dX8_run_7 (lv_at hl 0 rfl) ?_
  refine ab_ifnull (tgt := 20) X dX8_run_9 (by decide) (fun c6 => ?_) (fun c6 => ?_)
  · have hF := ab_pos c6 hF
    refine W.widen (k := 0) (n := 0) (Nat.le_of_ble_eq_true rfl) (Nat.le_of_ble_eq_true rfl) ?_
    exact w_X8_run_20 X hr  S (lv_sub hl [] rfl) hF
  · have hF := ab_neg c6 hF
    refine lv_iload X.1 X.2.1 dX8_run_12 (lv_at hl 4 rfl) ?_
    obtain ⟨x7, h8, e9, hF⟩ := bnd_out hF
    refine ab_callSi X S (c_X8_isK l D cA sz e9) mi_X8_isK lm_X8_67 lt_yX8_isK (As := [.int p2]) (rest := []) rfl ⟨by decide, by decide⟩ ⟨(by decide), (by decide)⟩ hl.1 rfl (by simp [ab_cat, ab_cI, ab_cJ, ab_cD, ab_cF]) dX8_run_14 (fun H1 locs1 S => ?_)
    refine lv_if_ne (tgt := 22) X.1 X.2.1 dX8_run_17 (by decide) (fun c10 => ?_) (fun c10 => ?_)
    · have hF := ab_pos c10 hF
      refine ab_aload X dX8_run_22 (lv_at hl 0 rfl) ?_
      obtain ⟨a14, e15, hF⟩ := bind_out hF
      obtain ⟨x11, h12, e13, hF⟩ := bnd_out hF
      refine ab_callVi X S e15 (c_X1_isReady l D cA sz e13) rfl (by decide) mi_X1_isReady lm_X8_112 li_yX1_isReady ls_yX1_isReady (As := []) (rest := []) rfl ⟨by decide, by decide⟩ ⟨(by decide), (by decide)⟩ hl.1 rfl (by simp [ab_cat, ab_cI, ab_cJ, ab_cD, ab_cF]) dX8_run_24 (fun H1 locs1 S => ?_)
      refine lv_if_ne (tgt := 33) X.1 X.2.1 dX8_run_27 (by decide) (fun c16 => ?_) (fun c16 => ?_)
      · have hF := ab_pos c16 hF
        refine ab_aload_n X dX8_run_33 rfl (lv_at hl 1 rfl) ?_
        refine ab_getI X S hF fi_8_7 lf_X8_89 dX8_run_34 (fun x17 hF => ?_)
        refine lv_iconst (v := 4) X.1 X.2.1 dX8_run_37 (by decide) ?_
        refine lv_icmp_lt (tgt := 44) X.1 X.2.1 dX8_run_38 (by decide) (fun c18 => ?_) (fun c18 => ?_)
        · have hF := ab_pos c18 hF
          refine ab_aload_n X dX8_run_44 rfl (lv_at hl 1 rfl) ?_
          refine ab_getR X S hF fi_8_6 lf_X8_37 dX8_run_45 (fun x19 hF => ?_)
          refine ab_aload_n X dX8_run_48 rfl (lv_at hl 1 rfl) ?_
          refine ab_getI X S hF fi_8_7 lf_X8_89 dX8_run_49 (fun x20 hF => ?_)
          refine ab_newx X S hF fi_4_0 ci_4 df_4 lk_X8_35 ln_RX4_12 lz_RX4 (by decide) (by decide) dX8_run_52 (fun q22 h21 H1 hF S => ?_)
          refine lv_dup X.1 X.2.1 dX8_run_55 (by simp [ab_cat, ab_cI, ab_cJ, ab_cD, ab_cF]) ?_
          refine ab_aload X dX8_run_56 (lv_at hl 0 rfl) ?_
          refine lv_lload_n X.1 X.2.1 dX8_run_58 rfl (lv_at hl 3 rfl) ?_
          refine lv_iload X.1 X.2.1 dX8_run_59 (lv_at hl 4 rfl) ?_
          obtain ⟨x23, h24, e25, hF⟩ := bnd_out hF
          refine ab_callSd X S (c_X8_quotient l D cA sz e25) mi_X8_quotient lm_X8_71 lt_yX8_quotient (As := [.long p1, .int p2]) (rest := [va_rf x1, va_rf (some q22), va_rf (some q22), .int x20, va_rf x19]) rfl ⟨by decide, by decide⟩ ⟨(by decide), (by decide)⟩ hl.1 rfl (by simp [ab_cat, ab_cI, ab_cJ, ab_cD, ab_cF]) dX8_run_61 (fun H1 locs1 S => ?_)
          refine ab_aload_n X dX8_run_64 rfl (lv_at hl 1 rfl) ?_
          refine ab_getR X S hF fi_8_0 lf_X8_10 dX8_run_65 (fun x26 hF => ?_)
          obtain ⟨x27, h28, e29, hF⟩ := bnd_out hF
          refine ab_callIv X S (c_X4_init l D cA sz e29) mi_X4_init rfl lm_X8_116 li_yX4_init (As := [va_rf x1, .double x23, va_rf x26]) (rest := [va_rf (some q22), .int x20, va_rf x19]) rfl ⟨by decide, by decide⟩ ⟨(by decide), (by decide)⟩ hl.1 rfl (by simp [ab_cat, ab_cI, ab_cJ, ab_cD, ab_cF]) dX8_run_68 (fun H1 locs1 S => ?_)
          refine ab_astR X S hF rfl (by decide) rfl dX8_run_71 (fun h30 H1 locs1 hF S => ?_)
          refine ab_aload_n X dX8_run_72 rfl (lv_at hl 1 rfl) ?_
          refine lv_dup X.1 X.2.1 dX8_run_73 (by simp [ab_cat, ab_cI, ab_cJ, ab_cD, ab_cF]) ?_
          refine ab_getI X S hF fi_8_7 lf_X8_89 dX8_run_74 (fun x31 hF => ?_)
          refine lv_iconst (v := 1) X.1 X.2.1 dX8_run_77 (by decide) ?_
          refine lv_iadd X.1 X.2.1 dX8_run_78 ?_
          refine ab_putI X S hF fi_8_7 ci_8 (Or.inl rfl) rfl lf_X8_89 dX8_run_79 (fun h32 H1 locs1 hF S => ?_)
          refine ab_aload_n X dX8_run_82 rfl (lv_at hl 1 rfl) ?_
          refine ab_getI X S hF fi_8_7 lf_X8_89 dX8_run_83 (fun x33 hF => ?_)
          refine lv_iconst (v := 1) X.1 X.2.1 dX8_run_86 (by decide) ?_
          refine lv_isub X.1 X.2.1 dX8_run_87 ?_
          refine W.widen (k := 44) (n := 30057) (Nat.le_of_ble_eq_true rfl) (Nat.le_of_ble_eq_true rfl) ?_
          exact ab_iret X S hr hF dX8_run_88
        · have hF := ab_neg c18 hF
          refine lv_bipush (v := (-3)) X.1 X.2.1 dX8_run_41 (by decide) ?_
          refine W.widen (k := 44) (n := 30057) (Nat.le_of_ble_eq_true rfl) (Nat.le_of_ble_eq_true rfl) ?_
          exact ab_iret X S hr hF dX8_run_43
      · have hF := ab_neg (fun q => q c16) hF
        refine lv_bipush (v := (-2)) X.1 X.2.1 dX8_run_30 (by decide) ?_
        refine W.widen (k := 44) (n := 30057) (Nat.le_of_ble_eq_true rfl) (Nat.le_of_ble_eq_true rfl) ?_
        exact ab_iret X S hr hF dX8_run_32
    · have hF := ab_neg (fun q => q c10) hF
      refine W.widen (k := 0) (n := 0) (Nat.le_of_ble_eq_true rfl) (Nat.le_of_ble_eq_true rfl) ?_
      exact w_X8_run_20 X hr  S (lv_sub hl [] rfl) hF
def f_X8_set_32   (h : Hp) : Option (Int32 × Hp) :=
  some ((-1), h)
set_option maxHeartbeats 4000000 in
set_option maxRecDepth 100000 in
theorem w_X8_set_32 {p : Program} {l : Launch} {e : Env} {s : State} {m : MethodId} {args : Array Value} {below : List Frame} {meth : Method} {c : Code} {D : va_G} {cA : Nat → ClassId} {sz : Nat} {rr : Int32} {hh : Hp}  (X : ab_X p s m args meth c cX8_set 7 RX8 D cA sz) (hr : meth.sig.returnType = (some .int))  {H : Heap} {locs : List Loc} {ls : Array Slot}  {h : Hp} (S : ab_H D cA sz h s H locs) (hl : lv_has ls 7 []) (hF : f_X8_set_32  h = some (rr, hh)) : W p l e (ab_rm 1 0 0) s m args below meth c H locs 0 0 (MQ below (ab_Q D cA sz (some (.int rr)) hh) args s 0 0 (fun q => sz ≤ q)) (F0 m 32 ls []) := by
  unfold f_X8_set_32 at hF
  refine lv_iconst (v := (-1)) X.1 X.2.1 dX8_set_32 (by decide) ?_
  exact ab_iret X S hr hF dX8_set_33
def f_X8_set (this : Nat) (p0 : Int32) (p1 : Int32) (p2 : Int64) (p3 : Int32) (h : Hp) : Option (Int32 × Hp) :=
  (ab_ck h (some this) (8, 0)).bind fun a4 =>
  bnd (f_X8_runAt a4 p0 h) fun x1 h2 =>
  if x1 = none then
    f_X8_set_32 h2
  else
    (getR h2 x1 4 0).bind fun x7 =>
    (ab_ck h2 x7 (1, 0)).bind fun a11 =>
    bnd (f_X1_hasVariable a11 p1 h2) fun x8 h9 =>
    if x8 = 0 then
      f_X8_set_32 h9
    else
      bnd (f_X8_isK p3 h9) fun x14 h15 =>
      if ¬ x14 = 0 then
        (getI h15 x1 4 7).bind fun x18 =>
        if x18 = 0 then
          (getR h15 x1 4 2).bind fun x20 =>
          bnd (f_X8_quotient p2 p3 h15) fun x21 h22 =>
          (getR h22 x1 4 0).bind fun x24 =>
          (ab_ck h22 x24 (1, 0)).bind fun a28 =>
          bnd (f_X1_isNarrow a28 p1 h22) fun x25 h26 =>
          (ab_ck h26 x20 (3, 0)).bind fun a33 =>
          bnd (f_X3_put a33 p1 x21 0 x25 h26) fun _ h31 =>
          some (1, h31)
        else
          some ((-2), h15)
      else
        f_X8_set_32 h15
theorem mi_X8_set : ab_MI yX8_set cX8_set 7 (some .int) 4 := ⟨lc_yX8_set, lz_RX8, by decide, by decide, by decide +kernel⟩
set_option maxHeartbeats 4000000 in
set_option maxRecDepth 100000 in
theorem c_X8_set (l : Launch) (D : va_G) (cA : Nat → ClassId) (sz : Nat) {this : Nat} {p0 : Int32} {p1 : Int32} {p2 : Int64} {p3 : Int32} {h hh : Hp} {rr : Int32} (hF : f_X8_set this p0 p1 p2 p3 h = some (rr, hh)) : ab_C l D cA sz yX8_set cX8_set 7 (some .int) 1 0 0 [.ref this, .int p0, .int p1, .long p2, .int p3] h (some (.int rr)) hh := by
  refine Met.ofW (cc := cX8_set) (maxL := 7) (ret := (some .int)) (by decide) rfl ?_
  intro p e s m args below meth c s₁ B hml hv
  obtain ⟨rfl, hT, hR⟩ := hv
  have X : ab_X p s m _ meth c cX8_set 7 RX8 D cA sz := (ab_enter B hml hT hR).1
  have S := (ab_enter B hml hT hR).2
  have hr := B.returns
  obtain ⟨ls, hls, hl⟩ := ab_entry m [.ref this, .int p0, .int p1, .long p2, .int p3] 7 (lv := [(0, .ref this), (1, .int p0), (2, .int p1), (3, .long p2), (5, .int p3)]) (by simp [lg_sl, ab_cat, ab_cI, ab_cJ, ab_cD, ab_cF, ab_cA]) (by simp [lv_args, ab_cat, ab_cI, ab_cJ, ab_cD, ab_cF, ab_cA])
  rw [hls]
  have hl : lv_has ls 7 [(0, va_rf (some this)), (1, .int p0), (2, .int p1), (3, .long p2), (5, .int p3)] := hl
  unfold f_X8_set at hF
  show W p l e (ab_rm 1 0 0) s m _ below meth c s.heap [] 0 0 _ _
  refine ab_aload_n X dX8_set_0 rfl (lv_at hl 0 rfl) ?_
  refine lv_iload_n X.1 X.2.1 dX8_set_1 rfl (lv_at hl 1 rfl) ?_
  obtain ⟨a4, e5, hF⟩ := bind_out hF
  obtain ⟨x1, h2, e3, hF⟩ := bnd_out hF
  refine ab_callVa X S e5 (c_X8_runAt l D cA sz e3) rfl (by decide) mi_X8_runAt lm_X8_119 li_yX8_runAt ls_yX8_runAt (As := [.int p0]) (rest := []) rfl ⟨by decide, by decide⟩ ⟨(by decide), (by decide)⟩ hl.1 rfl (by simp [ab_cat, ab_cI, ab_cJ, ab_cD, ab_cF]) dX8_set_2 (fun H1 locs1 S => ?_)
  refine ab_astore (lv' := [(6, va_rf x1), (0, va_rf (some this)), (1, .int p0), (2, .int p1), (3, .long p2), (5, .int p3)]) X dX8_set_5 hl (by decide) (by simp [ab_cat, ab_cI, ab_cJ, ab_cD, ab_cF]) (fun ls hl => ?_)
  refine ab_aload X dX8_set_7 (lv_at hl 0 rfl) ?_
  refine ab_ifnull (tgt := 32) X dX8_set_9 (by decide) (fun c6 => ?_) (fun c6 => ?_)
  · have hF := ab_pos c6 hF
    exact w_X8_set_32 X hr  S (lv_sub hl [] rfl) hF
  · have hF := ab_neg c6 hF
    refine ab_aload X dX8_set_12 (lv_at hl 0 rfl) ?_
    refine ab_getR X S hF fi_4_0 lf_X8_92 dX8_set_14 (fun x7 hF => ?_)
    refine lv_iload_n X.1 X.2.1 dX8_set_17 rfl (lv_at hl 3 rfl) ?_
    obtain ⟨a11, e12, hF⟩ := bind_out hF
    obtain ⟨x8, h9, e10, hF⟩ := bnd_out hF
    refine ab_callVi X S e12 (c_X1_hasVariable l D cA sz e10) rfl (by decide) mi_X1_hasVariable lm_X8_83 li_yX1_hasVariable ls_yX1_hasVariable (As := [.int p1]) (rest := []) rfl ⟨by decide, by decide⟩ ⟨(by decide), (by decide)⟩ hl.1 rfl (by simp [ab_cat, ab_cI, ab_cJ, ab_cD, ab_cF]) dX8_set_18 (fun H1 locs1 S => ?_)
    refine lv_if_eq (tgt := 32) X.1 X.2.1 dX8_set_21 (by decide) (fun c13 => ?_) (fun c13 => ?_)
    · have hF := ab_pos c13 hF
      exact w_X8_set_32 X hr  S (lv_sub hl [] rfl) hF
    · have hF := ab_neg c13 hF
      refine lv_iload X.1 X.2.1 dX8_set_24 (lv_at hl 5 rfl) ?_
      obtain ⟨x14, h15, e16, hF⟩ := bnd_out hF
      refine ab_callSi X S (c_X8_isK l D cA sz e16) mi_X8_isK lm_X8_67 lt_yX8_isK (As := [.int p3]) (rest := []) rfl ⟨by decide, by decide⟩ ⟨(by decide), (by decide)⟩ hl.1 rfl (by simp [ab_cat, ab_cI, ab_cJ, ab_cD, ab_cF]) dX8_set_26 (fun H1 locs1 S => ?_)
      refine lv_if_ne (tgt := 34) X.1 X.2.1 dX8_set_29 (by decide) (fun c17 => ?_) (fun c17 => ?_)
      · have hF := ab_pos c17 hF
        refine ab_aload X dX8_set_34 (lv_at hl 0 rfl) ?_
        refine ab_getI X S hF fi_4_7 lf_X8_123 dX8_set_36 (fun x18 hF => ?_)
        refine lv_if_eq (tgt := 45) X.1 X.2.1 dX8_set_39 (by decide) (fun c19 => ?_) (fun c19 => ?_)
        · have hF := ab_pos c19 hF
          refine ab_aload X dX8_set_45 (lv_at hl 0 rfl) ?_
          refine ab_getR X S hF fi_4_2 lf_X8_127 dX8_set_47 (fun x20 hF => ?_)
          refine lv_iload_n X.1 X.2.1 dX8_set_50 rfl (lv_at hl 3 rfl) ?_
          refine lv_lload_n X.1 X.2.1 dX8_set_51 rfl (lv_at hl 4 rfl) ?_
          refine lv_iload X.1 X.2.1 dX8_set_52 (lv_at hl 5 rfl) ?_
          obtain ⟨x21, h22, e23, hF⟩ := bnd_out hF
          refine ab_callSd X S (c_X8_quotient l D cA sz e23) mi_X8_quotient lm_X8_71 lt_yX8_quotient (As := [.long p2, .int p3]) (rest := [.int p1, va_rf x20]) rfl ⟨by decide, by decide⟩ ⟨(by decide), (by decide)⟩ hl.1 rfl (by simp [ab_cat, ab_cI, ab_cJ, ab_cD, ab_cF]) dX8_set_54 (fun H1 locs1 S => ?_)
          refine lv_iconst (v := 0) X.1 X.2.1 dX8_set_57 (by decide) ?_
          refine ab_aload X dX8_set_58 (lv_at hl 0 rfl) ?_
          refine ab_getR X S hF fi_4_0 lf_X8_92 dX8_set_60 (fun x24 hF => ?_)
          refine lv_iload_n X.1 X.2.1 dX8_set_63 rfl (lv_at hl 3 rfl) ?_
          obtain ⟨a28, e29, hF⟩ := bind_out hF
          obtain ⟨x25, h26, e27, hF⟩ := bnd_out hF
          refine ab_callVi X S e29 (c_X1_isNarrow l D cA sz e27) rfl (by decide) mi_X1_isNarrow lm_X8_131 li_yX1_isNarrow ls_yX1_isNarrow (As := [.int p1]) (rest := [.int 0, .double x21, .int p1, va_rf x20]) rfl ⟨by decide, by decide⟩ ⟨(by decide), (by decide)⟩ hl.1 rfl (by simp [ab_cat, ab_cI, ab_cJ, ab_cD, ab_cF]) dX8_set_64 (fun H1 locs1 S => ?_)
          obtain ⟨a33, e34, hF⟩ := bind_out hF
          obtain ⟨x30, h31, e32, hF⟩ := bnd_out hF
          refine ab_callVv X S e34 (c_X3_put l D cA sz e32) rfl (by decide) mi_X3_put lm_X8_134 li_yX3_put ls_yX3_put (As := [.int p1, .double x21, .int 0, .int x25]) (rest := []) rfl ⟨by decide, by decide⟩ ⟨(by decide), (by decide)⟩ hl.1 rfl (by simp [ab_cat, ab_cI, ab_cJ, ab_cD, ab_cF]) dX8_set_67 (fun H1 locs1 S => ?_)
          refine lv_iconst (v := 1) X.1 X.2.1 dX8_set_70 (by decide) ?_
          exact ab_iret X S hr hF dX8_set_71
        · have hF := ab_neg c19 hF
          refine lv_bipush (v := (-2)) X.1 X.2.1 dX8_set_42 (by decide) ?_
          exact ab_iret X S hr hF dX8_set_44
      · have hF := ab_neg (fun q => q c17) hF
        exact w_X8_set_32 X hr  S (lv_sub hl [] rfl) hF
def f_X8_method_20   (h : Hp) : Option (Int32 × Hp) :=
  some ((-1), h)
set_option maxHeartbeats 4000000 in
set_option maxRecDepth 100000 in
theorem w_X8_method_20 {p : Program} {l : Launch} {e : Env} {s : State} {m : MethodId} {args : Array Value} {below : List Frame} {meth : Method} {c : Code} {D : va_G} {cA : Nat → ClassId} {sz : Nat} {rr : Int32} {hh : Hp}  (X : ab_X p s m args meth c cX8_method 4 RX8 D cA sz) (hr : meth.sig.returnType = (some .int))  {H : Heap} {locs : List Loc} {ls : Array Slot}  {h : Hp} (S : ab_H D cA sz h s H locs) (hl : lv_has ls 4 []) (hF : f_X8_method_20  h = some (rr, hh)) : W p l e (ab_rm 1 0 0) s m args below meth c H locs 0 0 (MQ below (ab_Q D cA sz (some (.int rr)) hh) args s 0 0 (fun q => sz ≤ q)) (F0 m 20 ls []) := by
  unfold f_X8_method_20 at hF
  refine lv_iconst (v := (-1)) X.1 X.2.1 dX8_method_20 (by decide) ?_
  exact ab_iret X S hr hF dX8_method_21
def f_X8_method_44  (v2 : Int32) (v3 : Option Nat) (h : Hp) : Option (Int32 × Hp) :=
  (putI h v3 4 3 v2).bind fun h1 =>
  some (1, h1)
set_option maxHeartbeats 4000000 in
set_option maxRecDepth 100000 in
theorem w_X8_method_44 {p : Program} {l : Launch} {e : Env} {s : State} {m : MethodId} {args : Array Value} {below : List Frame} {meth : Method} {c : Code} {D : va_G} {cA : Nat → ClassId} {sz : Nat} {rr : Int32} {hh : Hp}  (X : ab_X p s m args meth c cX8_method 4 RX8 D cA sz) (hr : meth.sig.returnType = (some .int))  {H : Heap} {locs : List Loc} {ls : Array Slot} {v2 : Int32} {v3 : Option Nat} {h : Hp} (S : ab_H D cA sz h s H locs) (hl : lv_has ls 4 [(2, .int v2), (3, va_rf v3)]) (hF : f_X8_method_44 v2 v3 h = some (rr, hh)) : W p l e (ab_rm 1 0 0) s m args below meth c H locs 0 0 (MQ below (ab_Q D cA sz (some (.int rr)) hh) args s 0 0 (fun q => sz ≤ q)) (F0 m 44 ls []) := by
  unfold f_X8_method_44 at hF
  refine ab_aload_n X dX8_method_44 rfl (lv_at hl 1 rfl) ?_
  refine lv_iload_n X.1 X.2.1 dX8_method_45 rfl (lv_at hl 0 rfl) ?_
  refine ab_putI X S hF fi_4_3 ci_4 (Or.inl rfl) rfl lf_X8_143 dX8_method_46 (fun h1 H1 locs1 hF S => ?_)
  refine lv_iconst (v := 1) X.1 X.2.1 dX8_method_49 (by decide) ?_
  exact ab_iret X S hr hF dX8_method_50
def f_X8_method (this : Nat) (p0 : Int32) (p1 : Int32) (h : Hp) : Option (Int32 × Hp) :=
  (ab_ck h (some this) (8, 0)).bind fun a4 =>
  bnd (f_X8_runAt a4 p0 h) fun x1 h2 =>
  if x1 = none then
    f_X8_method_20 h2
  else
    if p1 < 0 then
      f_X8_method_20 h2
    else
      if p1 ≤ 6 then
        if ¬ p1 = 6 then
          f_X8_method_44 p1 x1 h2
        else
          (getR h2 x1 4 0).bind fun x10 =>
          (getI h2 x10 1 1).bind fun x11 =>
          if ¬ (x11 &&& 1) = 1 then
            f_X8_method_44 p1 x1 h2
          else
            some ((-2), h2)
      else
        f_X8_method_20 h2
theorem mi_X8_method : ab_MI yX8_method cX8_method 4 (some .int) 2 := ⟨lc_yX8_method, lz_RX8, by decide, by decide, by decide +kernel⟩
set_option maxHeartbeats 4000000 in
set_option maxRecDepth 100000 in
theorem c_X8_method (l : Launch) (D : va_G) (cA : Nat → ClassId) (sz : Nat) {this : Nat} {p0 : Int32} {p1 : Int32} {h hh : Hp} {rr : Int32} (hF : f_X8_method this p0 p1 h = some (rr, hh)) : ab_C l D cA sz yX8_method cX8_method 4 (some .int) 1 0 0 [.ref this, .int p0, .int p1] h (some (.int rr)) hh := by
  refine Met.ofW (cc := cX8_method) (maxL := 4) (ret := (some .int)) (by decide) rfl ?_
  intro p e s m args below meth c s₁ B hml hv
  obtain ⟨rfl, hT, hR⟩ := hv
  have X : ab_X p s m _ meth c cX8_method 4 RX8 D cA sz := (ab_enter B hml hT hR).1
  have S := (ab_enter B hml hT hR).2
  have hr := B.returns
  obtain ⟨ls, hls, hl⟩ := ab_entry m [.ref this, .int p0, .int p1] 4 (lv := [(0, .ref this), (1, .int p0), (2, .int p1)]) (by simp [lg_sl, ab_cat, ab_cI, ab_cJ, ab_cD, ab_cF, ab_cA]) (by simp [lv_args, ab_cat, ab_cI, ab_cJ, ab_cD, ab_cF, ab_cA])
  rw [hls]
  have hl : lv_has ls 4 [(0, va_rf (some this)), (1, .int p0), (2, .int p1)] := hl
  unfold f_X8_method at hF
  show W p l e (ab_rm 1 0 0) s m _ below meth c s.heap [] 0 0 _ _
  refine ab_aload_n X dX8_method_0 rfl (lv_at hl 0 rfl) ?_
  refine lv_iload_n X.1 X.2.1 dX8_method_1 rfl (lv_at hl 1 rfl) ?_
  obtain ⟨a4, e5, hF⟩ := bind_out hF
  obtain ⟨x1, h2, e3, hF⟩ := bnd_out hF
  refine ab_callVa X S e5 (c_X8_runAt l D cA sz e3) rfl (by decide) mi_X8_runAt lm_X8_119 li_yX8_runAt ls_yX8_runAt (As := [.int p0]) (rest := []) rfl ⟨by decide, by decide⟩ ⟨(by decide), (by decide)⟩ hl.1 rfl (by simp [ab_cat, ab_cI, ab_cJ, ab_cD, ab_cF]) dX8_method_2 (fun H1 locs1 S => ?_)
  refine ab_astore_n (i := 3) (lv' := [(3, va_rf x1), (0, va_rf (some this)), (1, .int p0), (2, .int p1)]) X dX8_method_5 rfl hl (by decide) (by simp [ab_cat, ab_cI, ab_cJ, ab_cD, ab_cF]) (fun ls hl => ?_)
  refine ab_aload_n X dX8_method_6 rfl (lv_at hl 0 rfl) ?_
  refine ab_ifnull (tgt := 20) X dX8_method_7 (by decide) (fun c6 => ?_) (fun c6 => ?_)
  · have hF := ab_pos c6 hF
    exact w_X8_method_20 X hr  S (lv_sub hl [] rfl) hF
  · have hF := ab_neg c6 hF
    refine lv_iload_n X.1 X.2.1 dX8_method_10 rfl (lv_at hl 3 rfl) ?_
    refine lv_if_lt (tgt := 20) X.1 X.2.1 dX8_method_11 (by decide) (fun c7 => ?_) (fun c7 => ?_)
    · have hF := ab_pos c7 hF
      exact w_X8_method_20 X hr  S (lv_sub hl [] rfl) hF
    · have hF := ab_neg c7 hF
      refine lv_iload_n X.1 X.2.1 dX8_method_14 rfl (lv_at hl 3 rfl) ?_
      refine lv_bipush (v := 6) X.1 X.2.1 dX8_method_15 (by decide) ?_
      refine lv_icmp_le (tgt := 22) X.1 X.2.1 dX8_method_17 (by decide) (fun c8 => ?_) (fun c8 => ?_)
      · have hF := ab_pos c8 hF
        refine lv_iload_n X.1 X.2.1 dX8_method_22 rfl (lv_at hl 3 rfl) ?_
        refine lv_bipush (v := 6) X.1 X.2.1 dX8_method_23 (by decide) ?_
        refine lv_icmp_ne (tgt := 44) X.1 X.2.1 dX8_method_25 (by decide) (fun c9 => ?_) (fun c9 => ?_)
        · have hF := ab_pos c9 hF
          exact w_X8_method_44 X hr  S (lv_sub hl [3, 0] rfl) hF
        · have hF := ab_neg (fun q => q c9) hF
          refine ab_aload_n X dX8_method_28 rfl (lv_at hl 0 rfl) ?_
          refine ab_getR X S hF fi_4_0 lf_X8_92 dX8_method_29 (fun x10 hF => ?_)
          refine ab_getI X S hF fi_1_1 lf_X8_140 dX8_method_32 (fun x11 hF => ?_)
          refine lv_iconst (v := 1) X.1 X.2.1 dX8_method_35 (by decide) ?_
          refine lv_iand X.1 X.2.1 dX8_method_36 ?_
          refine lv_iconst (v := 1) X.1 X.2.1 dX8_method_37 (by decide) ?_
          refine lv_icmp_ne (tgt := 44) X.1 X.2.1 dX8_method_38 (by decide) (fun c12 => ?_) (fun c12 => ?_)
          · have hF := ab_pos c12 hF
            exact w_X8_method_44 X hr  S (lv_sub hl [3, 0] rfl) hF
          · have hF := ab_neg (fun q => q c12) hF
            refine lv_bipush (v := (-2)) X.1 X.2.1 dX8_method_41 (by decide) ?_
            exact ab_iret X S hr hF dX8_method_43
      · have hF := ab_neg c8 hF
        exact w_X8_method_20 X hr  S (lv_sub hl [] rfl) hF
def f_X8_length_20   (h : Hp) : Option (Int32 × Hp) :=
  some ((-1), h)
set_option maxHeartbeats 4000000 in
set_option maxRecDepth 100000 in
theorem w_X8_length_20 {p : Program} {l : Launch} {e : Env} {s : State} {m : MethodId} {args : Array Value} {below : List Frame} {meth : Method} {c : Code} {D : va_G} {cA : Nat → ClassId} {sz : Nat} {rr : Int32} {hh : Hp}  (X : ab_X p s m args meth c cX8_length 10 RX8 D cA sz) (hr : meth.sig.returnType = (some .int))  {H : Heap} {locs : List Loc} {ls : Array Slot}  {h : Hp} (S : ab_H D cA sz h s H locs) (hl : lv_has ls 10 []) (hF : f_X8_length_20  h = some (rr, hh)) : W p l e (ab_rm 1 0 0) s m args below meth c H locs 0 0 (MQ below (ab_Q D cA sz (some (.int rr)) hh) args s 0 0 (fun q => sz ≤ q)) (F0 m 20 ls []) := by
  unfold f_X8_length_20 at hF
  refine lv_iconst (v := (-1)) X.1 X.2.1 dX8_length_20 (by decide) ?_
  exact ab_iret X S hr hF dX8_length_21
def f_X8_length_54   (h : Hp) : Option (Int32 × Hp) :=
  some ((-1), h)
set_option maxHeartbeats 4000000 in
set_option maxRecDepth 100000 in
theorem w_X8_length_54 {p : Program} {l : Launch} {e : Env} {s : State} {m : MethodId} {args : Array Value} {below : List Frame} {meth : Method} {c : Code} {D : va_G} {cA : Nat → ClassId} {sz : Nat} {rr : Int32} {hh : Hp}  (X : ab_X p s m args meth c cX8_length 10 RX8 D cA sz) (hr : meth.sig.returnType = (some .int))  {H : Heap} {locs : List Loc} {ls : Array Slot}  {h : Hp} (S : ab_H D cA sz h s H locs) (hl : lv_has ls 10 []) (hF : f_X8_length_54  h = some (rr, hh)) : W p l e (ab_rm 1 0 0) s m args below meth c H locs 0 0 (MQ below (ab_Q D cA sz (some (.int rr)) hh) args s 0 0 (fun q => sz ≤ q)) (F0 m 54 ls []) := by
  unfold f_X8_length_54 at hF
  refine lv_iconst (v := (-1)) X.1 X.2.1 dX8_length_54 (by decide) ?_
  exact ab_iret X S hr hF dX8_length_55
def f_X8_length (this : Nat) (p0 : Int32) (p1 : Int64) (p2 : Int32) (h : Hp) : Option (Int32 × Hp) :=
  (ab_ck h (some this) (8, 0)).bind fun a4 =>
  bnd (f_X8_runAt a4 p0 h) fun x1 h2 =>
  if x1 = none then
    f_X8_length_20 h2
  else
    bnd (f_X8_isK p2 h2) fun x7 h8 =>
    if ¬ x7 = 0 then
      bnd (f_X8_quotient p1 p2 h8) fun x11 h12 =>
      bnd (f_X8_size x11 h12) fun x14 h15 =>
      if 0 < (Op.cmpValue (FP.dcmp x14 4652218415073722368) CmpOp.l) then
        f_X8_length_54 h15
      else
        bnd (f_X8_isTooSmall x14 h15) fun x18 h19 =>
        if x18 = 0 then
          (putD h19 x1 4 4 x11).bind fun h22 =>
          some (1, h22)
        else
          f_X8_length_54 h19
    else
      f_X8_length_20 h8
theorem mi_X8_length : ab_MI yX8_length cX8_length 10 (some .int) 3 := ⟨lc_yX8_length, lz_RX8, by decide, by decide, by decide +kernel⟩
set_option maxHeartbeats 4000000 in
set_option maxRecDepth 100000 in
theorem c_X8_length (l : Launch) (D : va_G) (cA : Nat → ClassId) (sz : Nat) {this : Nat} {p0 : Int32} {p1 : Int64} {p2 : Int32} {h hh : Hp} {rr : Int32} (hF : f_X8_length this p0 p1 p2 h = some (rr, hh)) : ab_C l D cA sz yX8_length cX8_length 10 (some .int) 1 0 0 [.ref this, .int p0, .long p1, .int p2] h (some (.int rr)) hh := by
  refine Met.ofW (cc := cX8_length) (maxL := 10) (ret := (some .int)) (by decide) rfl ?_
  intro p e s m args below meth c s₁ B hml hv
  obtain ⟨rfl, hT, hR⟩ := hv
  have X : ab_X p s m _ meth c cX8_length 10 RX8 D cA sz := (ab_enter B hml hT hR).1
  have S := (ab_enter B hml hT hR).2
  have hr := B.returns
  obtain ⟨ls, hls, hl⟩ := ab_entry m [.ref this, .int p0, .long p1, .int p2] 10 (lv := [(0, .ref this), (1, .int p0), (2, .long p1), (4, .int p2)]) (by simp [lg_sl, ab_cat, ab_cI, ab_cJ, ab_cD, ab_cF, ab_cA]) (by simp [lv_args, ab_cat, ab_cI, ab_cJ, ab_cD, ab_cF, ab_cA])
  rw [hls]
  have hl : lv_has ls 10 [(0, va_rf (some this)), (1, .int p0), (2, .long p1), (4, .int p2)] := hl
  unfold f_X8_length at hF
  show W p l e (ab_rm 1 0 0) s m _ below meth c s.heap [] 0 0 _ _
  refine ab_aload_n X dX8_length_0 rfl (lv_at hl 0 rfl) ?_
  refine lv_iload_n X.1 X.2.1 dX8_length_1 rfl (lv_at hl 1 rfl) ?_
  obtain ⟨a4, e5, hF⟩ := bind_out hF
  obtain ⟨x1, h2, e3, hF⟩ := bnd_out hF
  refine ab_callVa X S e5 (c_X8_runAt l D cA sz e3) rfl (by decide) mi_X8_runAt lm_X8_119 li_yX8_runAt ls_yX8_runAt (As := [.int p0]) (rest := []) rfl ⟨by decide, by decide⟩ ⟨(by decide), (by decide)⟩ hl.1 rfl (by simp [ab_cat, ab_cI, ab_cJ, ab_cD, ab_cF]) dX8_length_2 (fun H1 locs1 S => ?_)
  refine ab_astore (lv' := [(5, va_rf x1), (0, va_rf (some this)), (1, .int p0), (2, .long p1), (4, .int p2)]) X dX8_length_5 hl (by decide) (by simp [ab_cat, ab_cI, ab_cJ, ab_cD, ab_cF]) (fun ls hl => ?_)
  refine ab_aload X dX8_length_7 (lv_at hl 0 rfl) ?_
  refine ab_ifnull (tgt := 20) X dX8_length_9 (by decide) (fun c6 => ?_) (fun c6 => ?_)
  · have hF := ab_pos c6 hF
    exact w_X8_length_20 X hr  S (lv_sub hl [] rfl) hF
  · have hF := ab_neg c6 hF
    refine lv_iload X.1 X.2.1 dX8_length_12 (lv_at hl 4 rfl) ?_
    obtain ⟨x7, h8, e9, hF⟩ := bnd_out hF
    refine ab_callSi X S (c_X8_isK l D cA sz e9) mi_X8_isK lm_X8_67 lt_yX8_isK (As := [.int p2]) (rest := []) rfl ⟨by decide, by decide⟩ ⟨(by decide), (by decide)⟩ hl.1 rfl (by simp [ab_cat, ab_cI, ab_cJ, ab_cD, ab_cF]) dX8_length_14 (fun H1 locs1 S => ?_)
    refine lv_if_ne (tgt := 22) X.1 X.2.1 dX8_length_17 (by decide) (fun c10 => ?_) (fun c10 => ?_)
    · have hF := ab_pos c10 hF
      refine lv_lload_n X.1 X.2.1 dX8_length_22 rfl (lv_at hl 3 rfl) ?_
      refine lv_iload X.1 X.2.1 dX8_length_23 (lv_at hl 4 rfl) ?_
      obtain ⟨x11, h12, e13, hF⟩ := bnd_out hF
      refine ab_callSd X S (c_X8_quotient l D cA sz e13) mi_X8_quotient lm_X8_71 lt_yX8_quotient (As := [.long p1, .int p2]) (rest := []) rfl ⟨by decide, by decide⟩ ⟨(by decide), (by decide)⟩ hl.1 rfl (by simp [ab_cat, ab_cI, ab_cJ, ab_cD, ab_cF]) dX8_length_25 (fun H1 locs1 S => ?_)
      refine lv_dstore (lv' := [(6, .double x11), (5, va_rf x1), (0, va_rf (some this)), (1, .int p0), (2, .long p1), (4, .int p2)]) X.1 X.2.1 dX8_length_28 hl (by decide) (by simp [ab_cat, ab_cI, ab_cJ, ab_cD, ab_cF]) (fun ls hl => ?_)
      refine lv_dload X.1 X.2.1 dX8_length_30 (lv_at hl 0 rfl) ?_
      obtain ⟨x14, h15, e16, hF⟩ := bnd_out hF
      refine ab_callSd X S (c_X8_size l D cA sz e16) mi_X8_size lm_X8_146 lt_yX8_size (As := [.double x11]) (rest := []) rfl ⟨by decide, by decide⟩ ⟨(by decide), (by decide)⟩ hl.1 rfl (by simp [ab_cat, ab_cI, ab_cJ, ab_cD, ab_cF]) dX8_length_32 (fun H1 locs1 S => ?_)
      refine lv_dstore (lv' := [(8, .double x14), (6, .double x11), (5, va_rf x1), (0, va_rf (some this)), (1, .int p0), (2, .long p1), (4, .int p2)]) X.1 X.2.1 dX8_length_35 hl (by decide) (by simp [ab_cat, ab_cI, ab_cJ, ab_cD, ab_cF]) (fun ls hl => ?_)
      refine lv_dload X.1 X.2.1 dX8_length_37 (lv_at hl 0 rfl) ?_
      refine lv_ldc2d (v := 4652218415073722368) X.1 X.2.1 X.2.2.2.1 (X.2.2.2.2.1 _ ld_X8_150) dX8_length_39 ?_
      refine lv_dcmp X.1 X.2.1 dX8_length_42 ?_
      refine lv_if_gt (tgt := 54) X.1 X.2.1 dX8_length_43 (by decide) (fun c17 => ?_) (fun c17 => ?_)
      · have hF := ab_pos c17 hF
        exact w_X8_length_54 X hr  S (lv_sub hl [] rfl) hF
      · have hF := ab_neg c17 hF
        refine lv_dload X.1 X.2.1 dX8_length_46 (lv_at hl 0 rfl) ?_
        obtain ⟨x18, h19, e20, hF⟩ := bnd_out hF
        refine ab_callSi X S (c_X8_isTooSmall l D cA sz e20) mi_X8_isTooSmall lm_X8_152 lt_yX8_isTooSmall (As := [.double x14]) (rest := []) rfl ⟨by decide, by decide⟩ ⟨(by decide), (by decide)⟩ hl.1 rfl (by simp [ab_cat, ab_cI, ab_cJ, ab_cD, ab_cF]) dX8_length_48 (fun H1 locs1 S => ?_)
        refine lv_if_eq (tgt := 56) X.1 X.2.1 dX8_length_51 (by decide) (fun c21 => ?_) (fun c21 => ?_)
        · have hF := ab_pos c21 hF
          refine ab_aload X dX8_length_56 (lv_at hl 2 rfl) ?_
          refine lv_dload X.1 X.2.1 dX8_length_58 (lv_at hl 1 rfl) ?_
          refine ab_putD X S hF fi_4_4 ci_4 (Or.inl rfl) rfl lf_X8_156 dX8_length_60 (fun h22 H1 locs1 hF S => ?_)
          refine lv_iconst (v := 1) X.1 X.2.1 dX8_length_63 (by decide) ?_
          exact ab_iret X S hr hF dX8_length_64
        · have hF := ab_neg c21 hF
          exact w_X8_length_54 X hr  S (lv_sub hl [] rfl) hF
    · have hF := ab_neg (fun q => q c10) hF
      exact w_X8_length_20 X hr  S (lv_sub hl [] rfl) hF
def f_X8_tolerance_33   (h : Hp) : Option (Int32 × Hp) :=
  some ((-1), h)
set_option maxHeartbeats 4000000 in
set_option maxRecDepth 100000 in
theorem w_X8_tolerance_33 {p : Program} {l : Launch} {e : Env} {s : State} {m : MethodId} {args : Array Value} {below : List Frame} {meth : Method} {c : Code} {D : va_G} {cA : Nat → ClassId} {sz : Nat} {rr : Int32} {hh : Hp}  (X : ab_X p s m args meth c cX8_tolerance 8 RX8 D cA sz) (hr : meth.sig.returnType = (some .int))  {H : Heap} {locs : List Loc} {ls : Array Slot}  {h : Hp} (S : ab_H D cA sz h s H locs) (hl : lv_has ls 8 []) (hF : f_X8_tolerance_33  h = some (rr, hh)) : W p l e (ab_rm 1 0 0) s m args below meth c H locs 0 0 (MQ below (ab_Q D cA sz (some (.int rr)) hh) args s 0 0 (fun q => sz ≤ q)) (F0 m 33 ls []) := by
  unfold f_X8_tolerance_33 at hF
  refine lv_iconst (v := (-1)) X.1 X.2.1 dX8_tolerance_33 (by decide) ?_
  exact ab_iret X S hr hF dX8_tolerance_34
def f_X8_tolerance (this : Nat) (p0 : Int32) (p1 : Int64) (p2 : Int64) (p3 : Int32) (h : Hp) : Option (Int32 × Hp) :=
  (ab_ck h (some this) (8, 0)).bind fun a4 =>
  bnd (f_X8_runAt a4 p0 h) fun x1 h2 =>
  if x1 = none then
    f_X8_tolerance_33 h2
  else
    bnd (f_X8_isK p3 h2) fun x7 h8 =>
    if x7 = 0 then
      f_X8_tolerance_33 h8
    else
      if (lg_cmp p1 1) < 0 then
        f_X8_tolerance_33 h8
      else
        if 0 ≤ (lg_cmp p2 0) then
          bnd (f_X8_quotient p1 p3 h8) fun x13 h14 =>
          (putD h14 x1 4 5 x13).bind fun h16 =>
          bnd (f_X8_quotient p2 p3 h16) fun x17 h18 =>
          (putD h18 x1 4 6 x17).bind fun h20 =>
          some (1, h20)
        else
          f_X8_tolerance_33 h8
theorem mi_X8_tolerance : ab_MI yX8_tolerance cX8_tolerance 8 (some .int) 4 := ⟨lc_yX8_tolerance, lz_RX8, by decide, by decide, by decide +kernel⟩
set_option maxHeartbeats 4000000 in
set_option maxRecDepth 100000 in
theorem c_X8_tolerance (l : Launch) (D : va_G) (cA : Nat → ClassId) (sz : Nat) {this : Nat} {p0 : Int32} {p1 : Int64} {p2 : Int64} {p3 : Int32} {h hh : Hp} {rr : Int32} (hF : f_X8_tolerance this p0 p1 p2 p3 h = some (rr, hh)) : ab_C l D cA sz yX8_tolerance cX8_tolerance 8 (some .int) 1 0 0 [.ref this, .int p0, .long p1, .long p2, .int p3] h (some (.int rr)) hh := by
  refine Met.ofW (cc := cX8_tolerance) (maxL := 8) (ret := (some .int)) (by decide) rfl ?_
  intro p e s m args below meth c s₁ B hml hv
  obtain ⟨rfl, hT, hR⟩ := hv
  have X : ab_X p s m _ meth c cX8_tolerance 8 RX8 D cA sz := (ab_enter B hml hT hR).1
  have S := (ab_enter B hml hT hR).2
  have hr := B.returns
  obtain ⟨ls, hls, hl⟩ := ab_entry m [.ref this, .int p0, .long p1, .long p2, .int p3] 8 (lv := [(0, .ref this), (1, .int p0), (2, .long p1), (4, .long p2), (6, .int p3)]) (by simp [lg_sl, ab_cat, ab_cI, ab_cJ, ab_cD, ab_cF, ab_cA]) (by simp [lv_args, ab_cat, ab_cI, ab_cJ, ab_cD, ab_cF, ab_cA])
  rw [hls]
  have hl : lv_has ls 8 [(0, va_rf (some this)), (1, .int p0), (2, .long p1), (4, .long p2), (6, .int p3)] := hl
  unfold f_X8_tolerance at hF
  show W p l e (ab_rm 1 0 0) s m _ below meth c s.heap [] 0 0 _ _
  refine ab_aload_n X dX8_tolerance_0 rfl (lv_at hl 0 rfl) ?_
  refine lv_iload_n X.1 X.2.1 dX8_tolerance_1 rfl (lv_at hl 1 rfl) ?_
  obtain ⟨a4, e5, hF⟩ := bind_out hF
  obtain ⟨x1, h2, e3, hF⟩ := bnd_out hF
  refine ab_callVa X S e5 (c_X8_runAt l D cA sz e3) rfl (by decide) mi_X8_runAt lm_X8_119 li_yX8_runAt ls_yX8_runAt (As := [.int p0]) (rest := []) rfl ⟨by decide, by decide⟩ ⟨(by decide), (by decide)⟩ hl.1 rfl (by simp [ab_cat, ab_cI, ab_cJ, ab_cD, ab_cF]) dX8_tolerance_2 (fun H1 locs1 S => ?_)
  refine ab_astore (lv' := [(7, va_rf x1), (0, va_rf (some this)), (1, .int p0), (2, .long p1), (4, .long p2), (6, .int p3)]) X dX8_tolerance_5 hl (by decide) (by simp [ab_cat, ab_cI, ab_cJ, ab_cD, ab_cF]) (fun ls hl => ?_)
  refine ab_aload X dX8_tolerance_7 (lv_at hl 0 rfl) ?_
  refine ab_ifnull (tgt := 33) X dX8_tolerance_9 (by decide) (fun c6 => ?_) (fun c6 => ?_)
  · have hF := ab_pos c6 hF
    exact w_X8_tolerance_33 X hr  S (lv_sub hl [] rfl) hF
  · have hF := ab_neg c6 hF
    refine lv_iload X.1 X.2.1 dX8_tolerance_12 (lv_at hl 5 rfl) ?_
    obtain ⟨x7, h8, e9, hF⟩ := bnd_out hF
    refine ab_callSi X S (c_X8_isK l D cA sz e9) mi_X8_isK lm_X8_67 lt_yX8_isK (As := [.int p3]) (rest := []) rfl ⟨by decide, by decide⟩ ⟨(by decide), (by decide)⟩ hl.1 rfl (by simp [ab_cat, ab_cI, ab_cJ, ab_cD, ab_cF]) dX8_tolerance_14 (fun H1 locs1 S => ?_)
    refine lv_if_eq (tgt := 33) X.1 X.2.1 dX8_tolerance_17 (by decide) (fun c10 => ?_) (fun c10 => ?_)
    · have hF := ab_pos c10 hF
      exact w_X8_tolerance_33 X hr  S (lv_sub hl [] rfl) hF
    · have hF := ab_neg c10 hF
      refine lv_lload_n X.1 X.2.1 dX8_tolerance_20 rfl (lv_at hl 3 rfl) ?_
      refine lv_lconst (v := 1) X.1 X.2.1 dX8_tolerance_21 (by decide) ?_
      refine W.lcmp X.1 X.2.1 dX8_tolerance_22 ?_
      refine lv_if_lt (tgt := 33) X.1 X.2.1 dX8_tolerance_23 (by decide) (fun c11 => ?_) (fun c11 => ?_)
      · have hF := ab_pos c11 hF
        exact w_X8_tolerance_33 X hr  S (lv_sub hl [] rfl) hF
      · have hF := ab_neg c11 hF
        refine lv_lload X.1 X.2.1 dX8_tolerance_26 (lv_at hl 4 rfl) ?_
        refine lv_lconst (v := 0) X.1 X.2.1 dX8_tolerance_28 (by decide) ?_
        refine W.lcmp X.1 X.2.1 dX8_tolerance_29 ?_
        refine lv_if_ge (tgt := 35) X.1 X.2.1 dX8_tolerance_30 (by decide) (fun c12 => ?_) (fun c12 => ?_)
        · have hF := ab_pos c12 hF
          refine ab_aload X dX8_tolerance_35 (lv_at hl 0 rfl) ?_
          refine lv_lload_n X.1 X.2.1 dX8_tolerance_37 rfl (lv_at hl 3 rfl) ?_
          refine lv_iload X.1 X.2.1 dX8_tolerance_38 (lv_at hl 5 rfl) ?_
          obtain ⟨x13, h14, e15, hF⟩ := bnd_out hF
          refine ab_callSd X S (c_X8_quotient l D cA sz e15) mi_X8_quotient lm_X8_71 lt_yX8_quotient (As := [.long p1, .int p3]) (rest := [va_rf x1]) rfl ⟨by decide, by decide⟩ ⟨(by decide), (by decide)⟩ hl.1 rfl (by simp [ab_cat, ab_cI, ab_cJ, ab_cD, ab_cF]) dX8_tolerance_40 (fun H1 locs1 S => ?_)
          refine ab_putD X S hF fi_4_5 ci_4 (Or.inl rfl) rfl lf_X8_160 dX8_tolerance_43 (fun h16 H1 locs1 hF S => ?_)
          refine ab_aload X dX8_tolerance_46 (lv_at hl 0 rfl) ?_
          refine lv_lload X.1 X.2.1 dX8_tolerance_48 (lv_at hl 4 rfl) ?_
          refine lv_iload X.1 X.2.1 dX8_tolerance_50 (lv_at hl 5 rfl) ?_
          obtain ⟨x17, h18, e19, hF⟩ := bnd_out hF
          refine ab_callSd X S (c_X8_quotient l D cA sz e19) mi_X8_quotient lm_X8_71 lt_yX8_quotient (As := [.long p2, .int p3]) (rest := [va_rf x1]) rfl ⟨by decide, by decide⟩ ⟨(by decide), (by decide)⟩ hl.1 rfl (by simp [ab_cat, ab_cI, ab_cJ, ab_cD, ab_cF]) dX8_tolerance_52 (fun H1 locs1 S => ?_)
          refine ab_putD X S hF fi_4_6 ci_4 (Or.inl rfl) rfl lf_X8_163 dX8_tolerance_55 (fun h20 H1 locs1 hF S => ?_)
          refine lv_iconst (v := 1) X.1 X.2.1 dX8_tolerance_58 (by decide) ?_
          exact ab_iret X S hr hF dX8_tolerance_59
        · have hF := ab_neg c12 hF
          exact w_X8_tolerance_33 X hr  S (lv_sub hl [] rfl) hF
def f_X8_event_24   (h : Hp) : Option (Int32 × Hp) :=
  some ((-1), h)
set_option maxHeartbeats 4000000 in
set_option maxRecDepth 100000 in
theorem w_X8_event_24 {p : Program} {l : Launch} {e : Env} {s : State} {m : MethodId} {args : Array Value} {below : List Frame} {meth : Method} {c : Code} {D : va_G} {cA : Nat → ClassId} {sz : Nat} {rr : Int32} {hh : Hp}  (X : ab_X p s m args meth c cX8_event 7 RX8 D cA sz) (hr : meth.sig.returnType = (some .int))  {H : Heap} {locs : List Loc} {ls : Array Slot}  {h : Hp} (S : ab_H D cA sz h s H locs) (hl : lv_has ls 7 []) (hF : f_X8_event_24  h = some (rr, hh)) : W p l e (ab_rm 1 0 0) s m args below meth c H locs 0 0 (MQ below (ab_Q D cA sz (some (.int rr)) hh) args s 0 0 (fun q => sz ≤ q)) (F0 m 24 ls []) := by
  unfold f_X8_event_24 at hF
  refine lv_iconst (v := (-1)) X.1 X.2.1 dX8_event_24 (by decide) ?_
  exact ab_iret X S hr hF dX8_event_25
def f_X8_event_47   (h : Hp) : Option (Int32 × Hp) :=
  some ((-1), h)
set_option maxHeartbeats 4000000 in
set_option maxRecDepth 100000 in
theorem w_X8_event_47 {p : Program} {l : Launch} {e : Env} {s : State} {m : MethodId} {args : Array Value} {below : List Frame} {meth : Method} {c : Code} {D : va_G} {cA : Nat → ClassId} {sz : Nat} {rr : Int32} {hh : Hp}  (X : ab_X p s m args meth c cX8_event 7 RX8 D cA sz) (hr : meth.sig.returnType = (some .int))  {H : Heap} {locs : List Loc} {ls : Array Slot}  {h : Hp} (S : ab_H D cA sz h s H locs) (hl : lv_has ls 7 []) (hF : f_X8_event_47  h = some (rr, hh)) : W p l e (ab_rm 1 0 0) s m args below meth c H locs 0 0 (MQ below (ab_Q D cA sz (some (.int rr)) hh) args s 0 0 (fun q => sz ≤ q)) (F0 m 47 ls []) := by
  unfold f_X8_event_47 at hF
  refine lv_iconst (v := (-1)) X.1 X.2.1 dX8_event_47 (by decide) ?_
  exact ab_iret X S hr hF dX8_event_48
def f_X8_event (this : Nat) (p0 : Int32) (p1 : Int32) (p2 : Int32) (p3 : Int32) (p4 : Int32) (h : Hp) : Option (Int32 × Hp) :=
  (ab_ck h (some this) (8, 0)).bind fun a4 =>
  bnd (f_X8_runAt a4 p0 h) fun x1 h2 =>
  if x1 = none then
    f_X8_event_24 h2
  else
    (getR h2 x1 4 0).bind fun x7 =>
    (ab_ck h2 x7 (1, 0)).bind fun a11 =>
    bnd (f_X1_hasNode a11 p1 h2) fun x8 h9 =>
    if ¬ x8 = 0 then
      if p2 < (-1) then
        f_X8_event_47 h9
      else
        if 1 < p2 then
          f_X8_event_47 h9
        else
          if p3 < 0 then
            f_X8_event_47 h9
          else
            if p3 ≤ 3 then
              (getR h9 x1 4 10).bind fun x18 =>
              (ab_ck h9 x18 (0, 0)).bind fun a22 =>
              bnd (f_X0_add a22 p1 p2 p3 p4 h9) fun x19 h20 =>
              some (x19, h20)
            else
              f_X8_event_47 h9
    else
      f_X8_event_24 h9
theorem mi_X8_event : ab_MI yX8_event cX8_event 7 (some .int) 5 := ⟨lc_yX8_event, lz_RX8, by decide, by decide, by decide +kernel⟩
set_option maxHeartbeats 4000000 in
set_option maxRecDepth 100000 in
theorem c_X8_event (l : Launch) (D : va_G) (cA : Nat → ClassId) (sz : Nat) {this : Nat} {p0 : Int32} {p1 : Int32} {p2 : Int32} {p3 : Int32} {p4 : Int32} {h hh : Hp} {rr : Int32} (hF : f_X8_event this p0 p1 p2 p3 p4 h = some (rr, hh)) : ab_C l D cA sz yX8_event cX8_event 7 (some .int) 1 0 0 [.ref this, .int p0, .int p1, .int p2, .int p3, .int p4] h (some (.int rr)) hh := by
  refine Met.ofW (cc := cX8_event) (maxL := 7) (ret := (some .int)) (by decide) rfl ?_
  intro p e s m args below meth c s₁ B hml hv
  obtain ⟨rfl, hT, hR⟩ := hv
  have X : ab_X p s m _ meth c cX8_event 7 RX8 D cA sz := (ab_enter B hml hT hR).1
  have S := (ab_enter B hml hT hR).2
  have hr := B.returns
  obtain ⟨ls, hls, hl⟩ := ab_entry m [.ref this, .int p0, .int p1, .int p2, .int p3, .int p4] 7 (lv := [(0, .ref this), (1, .int p0), (2, .int p1), (3, .int p2), (4, .int p3), (5, .int p4)]) (by simp [lg_sl, ab_cat, ab_cI, ab_cJ, ab_cD, ab_cF, ab_cA]) (by simp [lv_args, ab_cat, ab_cI, ab_cJ, ab_cD, ab_cF, ab_cA])
  rw [hls]
  have hl : lv_has ls 7 [(0, va_rf (some this)), (1, .int p0), (2, .int p1), (3, .int p2), (4, .int p3), (5, .int p4)] := hl
  unfold f_X8_event at hF
  show W p l e (ab_rm 1 0 0) s m _ below meth c s.heap [] 0 0 _ _
  refine ab_aload_n X dX8_event_0 rfl (lv_at hl 0 rfl) ?_
  refine lv_iload_n X.1 X.2.1 dX8_event_1 rfl (lv_at hl 1 rfl) ?_
  obtain ⟨a4, e5, hF⟩ := bind_out hF
  obtain ⟨x1, h2, e3, hF⟩ := bnd_out hF
  refine ab_callVa X S e5 (c_X8_runAt l D cA sz e3) rfl (by decide) mi_X8_runAt lm_X8_119 li_yX8_runAt ls_yX8_runAt (As := [.int p0]) (rest := []) rfl ⟨by decide, by decide⟩ ⟨(by decide), (by decide)⟩ hl.1 rfl (by simp [ab_cat, ab_cI, ab_cJ, ab_cD, ab_cF]) dX8_event_2 (fun H1 locs1 S => ?_)
  refine ab_astore (lv' := [(6, va_rf x1), (0, va_rf (some this)), (1, .int p0), (2, .int p1), (3, .int p2), (4, .int p3), (5, .int p4)]) X dX8_event_5 hl (by decide) (by simp [ab_cat, ab_cI, ab_cJ, ab_cD, ab_cF]) (fun ls hl => ?_)
  refine ab_aload X dX8_event_7 (lv_at hl 0 rfl) ?_
  refine ab_ifnull (tgt := 24) X dX8_event_9 (by decide) (fun c6 => ?_) (fun c6 => ?_)
  · have hF := ab_pos c6 hF
    exact w_X8_event_24 X hr  S (lv_sub hl [] rfl) hF
  · have hF := ab_neg c6 hF
    refine ab_aload X dX8_event_12 (lv_at hl 0 rfl) ?_
    refine ab_getR X S hF fi_4_0 lf_X8_92 dX8_event_14 (fun x7 hF => ?_)
    refine lv_iload_n X.1 X.2.1 dX8_event_17 rfl (lv_at hl 3 rfl) ?_
    obtain ⟨a11, e12, hF⟩ := bind_out hF
    obtain ⟨x8, h9, e10, hF⟩ := bnd_out hF
    refine ab_callVi X S e12 (c_X1_hasNode l D cA sz e10) rfl (by decide) mi_X1_hasNode lm_X8_86 li_yX1_hasNode ls_yX1_hasNode (As := [.int p1]) (rest := []) rfl ⟨by decide, by decide⟩ ⟨(by decide), (by decide)⟩ hl.1 rfl (by simp [ab_cat, ab_cI, ab_cJ, ab_cD, ab_cF]) dX8_event_18 (fun H1 locs1 S => ?_)
    refine lv_if_ne (tgt := 26) X.1 X.2.1 dX8_event_21 (by decide) (fun c13 => ?_) (fun c13 => ?_)
    · have hF := ab_pos c13 hF
      refine lv_iload_n X.1 X.2.1 dX8_event_26 rfl (lv_at hl 4 rfl) ?_
      refine lv_iconst (v := (-1)) X.1 X.2.1 dX8_event_27 (by decide) ?_
      refine lv_icmp_lt (tgt := 47) X.1 X.2.1 dX8_event_28 (by decide) (fun c14 => ?_) (fun c14 => ?_)
      · have hF := ab_pos c14 hF
        exact w_X8_event_47 X hr  S (lv_sub hl [] rfl) hF
      · have hF := ab_neg c14 hF
        refine lv_iload_n X.1 X.2.1 dX8_event_31 rfl (lv_at hl 4 rfl) ?_
        refine lv_iconst (v := 1) X.1 X.2.1 dX8_event_32 (by decide) ?_
        refine lv_icmp_gt (tgt := 47) X.1 X.2.1 dX8_event_33 (by decide) (fun c15 => ?_) (fun c15 => ?_)
        · have hF := ab_pos c15 hF
          exact w_X8_event_47 X hr  S (lv_sub hl [] rfl) hF
        · have hF := ab_neg c15 hF
          refine lv_iload X.1 X.2.1 dX8_event_36 (lv_at hl 5 rfl) ?_
          refine lv_if_lt (tgt := 47) X.1 X.2.1 dX8_event_38 (by decide) (fun c16 => ?_) (fun c16 => ?_)
          · have hF := ab_pos c16 hF
            exact w_X8_event_47 X hr  S (lv_sub hl [] rfl) hF
          · have hF := ab_neg c16 hF
            refine lv_iload X.1 X.2.1 dX8_event_41 (lv_at hl 5 rfl) ?_
            refine lv_iconst (v := 3) X.1 X.2.1 dX8_event_43 (by decide) ?_
            refine lv_icmp_le (tgt := 49) X.1 X.2.1 dX8_event_44 (by decide) (fun c17 => ?_) (fun c17 => ?_)
            · have hF := ab_pos c17 hF
              refine ab_aload X dX8_event_49 (lv_at hl 0 rfl) ?_
              refine ab_getR X S hF fi_4_10 lf_X8_166 dX8_event_51 (fun x18 hF => ?_)
              refine lv_iload_n X.1 X.2.1 dX8_event_54 rfl (lv_at hl 3 rfl) ?_
              refine lv_iload_n X.1 X.2.1 dX8_event_55 rfl (lv_at hl 4 rfl) ?_
              refine lv_iload X.1 X.2.1 dX8_event_56 (lv_at hl 5 rfl) ?_
              refine lv_iload X.1 X.2.1 dX8_event_58 (lv_at hl 6 rfl) ?_
              obtain ⟨a22, e23, hF⟩ := bind_out hF
              obtain ⟨x19, h20, e21, hF⟩ := bnd_out hF
              refine ab_callVi X S e23 (c_X0_add l D cA sz e21) rfl (by decide) mi_X0_add lm_X8_170 li_yX0_add ls_yX0_add (As := [.int p1, .int p2, .int p3, .int p4]) (rest := []) rfl ⟨by decide, by decide⟩ ⟨(by decide), (by decide)⟩ hl.1 rfl (by simp [ab_cat, ab_cI, ab_cJ, ab_cD, ab_cF]) dX8_event_60 (fun H1 locs1 S => ?_)
              exact ab_iret X S hr hF dX8_event_63
            · have hF := ab_neg c17 hF
              exact w_X8_event_47 X hr  S (lv_sub hl [] rfl) hF
    · have hF := ab_neg (fun q => q c13) hF
      exact w_X8_event_24 X hr  S (lv_sub hl [] rfl) hF
def f_X8_clock (this : Nat) (p0 : Int32) (p1 : Int32) (h : Hp) : Option (Int64 × Hp) :=
  (ab_ck h (some this) (8, 0)).bind fun a4 =>
  bnd (f_X8_runAt a4 p0 h) fun x1 h2 =>
  if ¬ x1 = none then
    if p1.toInt < 0 ∨ 3 < p1.toInt then
      some ((9221120237041090560), h2)
    else if p1 = 0 then
      (getR h2 (some this) 8 1).bind fun x9 =>
      (getD h2 x1 4 1).bind fun x10 =>
      (ab_ck h2 x9 (7, 0)).bind fun a14 =>
      bnd (f_X7_bits a14 x10 h2) fun x11 h12 =>
      some (x11, h12)
    else if p1 = 1 then
      (getR h2 (some this) 8 1).bind fun x17 =>
      (getD h2 x1 4 4).bind fun x18 =>
      (ab_ck h2 x17 (7, 0)).bind fun a22 =>
      bnd (f_X7_bits a22 x18 h2) fun x19 h20 =>
      some (x19, h20)
    else if p1 = 2 then
      (getR h2 (some this) 8 1).bind fun x25 =>
      (getR h2 x1 4 11).bind fun x26 =>
      (getD h2 x26 6 12).bind fun x27 =>
      (ab_ck h2 x25 (7, 0)).bind fun a31 =>
      bnd (f_X7_bits a31 x27 h2) fun x28 h29 =>
      some (x28, h29)
    else if p1 = 3 then
      (getR h2 (some this) 8 1).bind fun x34 =>
      (getR h2 x1 4 11).bind fun x35 =>
      (getD h2 x35 6 4).bind fun x36 =>
      (ab_ck h2 x34 (7, 0)).bind fun a40 =>
      bnd (f_X7_bits a40 x36 h2) fun x37 h38 =>
      some (x37, h38)
    else none
  else
    some ((9221120237041090560), h2)
theorem mi_X8_clock : ab_MI yX8_clock cX8_clock 4 (some .long) 2 := ⟨lc_yX8_clock, lz_RX8, by decide, by decide, by decide +kernel⟩
set_option maxHeartbeats 4000000 in
set_option maxRecDepth 100000 in
theorem c_X8_clock (l : Launch) (D : va_G) (cA : Nat → ClassId) (sz : Nat) {this : Nat} {p0 : Int32} {p1 : Int32} {h hh : Hp} {rr : Int64} (hF : f_X8_clock this p0 p1 h = some (rr, hh)) : ab_C l D cA sz yX8_clock cX8_clock 4 (some .long) 2 0 0 [.ref this, .int p0, .int p1] h (some (.long rr)) hh := by
  refine Met.ofW (cc := cX8_clock) (maxL := 4) (ret := (some .long)) (by decide) rfl ?_
  intro p e s m args below meth c s₁ B hml hv
  obtain ⟨rfl, hT, hR⟩ := hv
  have X : ab_X p s m _ meth c cX8_clock 4 RX8 D cA sz := (ab_enter B hml hT hR).1
  have S := (ab_enter B hml hT hR).2
  have hr := B.returns
  obtain ⟨ls, hls, hl⟩ := ab_entry m [.ref this, .int p0, .int p1] 4 (lv := [(0, .ref this), (1, .int p0), (2, .int p1)]) (by simp [lg_sl, ab_cat, ab_cI, ab_cJ, ab_cD, ab_cF, ab_cA]) (by simp [lv_args, ab_cat, ab_cI, ab_cJ, ab_cD, ab_cF, ab_cA])
  rw [hls]
  have hl : lv_has ls 4 [(0, va_rf (some this)), (1, .int p0), (2, .int p1)] := hl
  unfold f_X8_clock at hF
  show W p l e (ab_rm 2 0 0) s m _ below meth c s.heap [] 0 0 _ _
  refine ab_aload_n X dX8_clock_0 rfl (lv_at hl 0 rfl) ?_
  refine lv_iload_n X.1 X.2.1 dX8_clock_1 rfl (lv_at hl 1 rfl) ?_
  obtain ⟨a4, e5, hF⟩ := bind_out hF
  obtain ⟨x1, h2, e3, hF⟩ := bnd_out hF
  refine ab_callVa X S e5 (c_X8_runAt l D cA sz e3) rfl (by decide) mi_X8_runAt lm_X8_119 li_yX8_runAt ls_yX8_runAt (As := [.int p0]) (rest := []) rfl ⟨by decide, by decide⟩ ⟨(by decide), (by decide)⟩ hl.1 rfl (by simp [ab_cat, ab_cI, ab_cJ, ab_cD, ab_cF]) dX8_clock_2 (fun H1 locs1 S => ?_)
  refine ab_astore_n (i := 3) (lv' := [(3, va_rf x1), (0, va_rf (some this)), (1, .int p0), (2, .int p1)]) X dX8_clock_5 rfl hl (by decide) (by simp [ab_cat, ab_cI, ab_cJ, ab_cD, ab_cF]) (fun ls hl => ?_)
  refine ab_aload_n X dX8_clock_6 rfl (lv_at hl 0 rfl) ?_
  refine ab_ifnonnull (tgt := 14) X dX8_clock_7 (by decide) (fun c6 => ?_) (fun c6 => ?_)
  · have hF := ab_pos c6 hF
    refine lv_iload_n X.1 X.2.1 dX8_clock_14 rfl (lv_at hl 3 rfl) ?_
    by_cases c7 : p1.toInt < 0 ∨ 3 < p1.toInt
    · have hF := ab_pos c7 hF
      refine lv_tableOut (tgt := 98) X.1 X.2.1 dX8_clock_15 c7 (by decide) ?_
      refine lv_ldc2 (v := (9221120237041090560)) X.1 X.2.1 X.2.2.2.1 (X.2.2.2.2.1 _ ll_X8_190) dX8_clock_98 ?_
      exact ab_lret X S hr hF dX8_clock_101
    have hF := ab_neg c7 hF
    by_cases c8 : p1 = 0
    · have hF := ab_pos c8 hF
      refine ab_tab (tgt := 44) X dX8_clock_15 c8 (by decide) (by decide) rfl (by decide) ?_
      refine ab_aload_n X dX8_clock_44 rfl (lv_at hl 1 rfl) ?_
      refine ab_getR X S hF fi_8_1 lf_X8_19 dX8_clock_45 (fun x9 hF => ?_)
      refine ab_aload_n X dX8_clock_48 rfl (lv_at hl 0 rfl) ?_
      refine ab_getD X S hF fi_4_1 lf_X8_179 dX8_clock_49 (fun x10 hF => ?_)
      obtain ⟨a14, e15, hF⟩ := bind_out hF
      obtain ⟨x11, h12, e13, hF⟩ := bnd_out hF
      refine ab_callVl X S e15 (c_X7_bits l D cA sz e13) rfl (by decide) mi_X7_bits lm_X8_196 li_yX7_bits ls_yX7_bits (As := [.double x10]) (rest := []) rfl ⟨by decide, by decide⟩ ⟨(by decide), (by decide)⟩ hl.1 rfl (by simp [ab_cat, ab_cI, ab_cJ, ab_cD, ab_cF]) dX8_clock_52 (fun H1 locs1 S => ?_)
      exact ab_lret X S hr hF dX8_clock_55
    have hF := ab_neg c8 hF
    by_cases c16 : p1 = 1
    · have hF := ab_pos c16 hF
      refine ab_tab (tgt := 56) X dX8_clock_15 c16 (by decide) (by decide) rfl (by decide) ?_
      refine ab_aload_n X dX8_clock_56 rfl (lv_at hl 1 rfl) ?_
      refine ab_getR X S hF fi_8_1 lf_X8_19 dX8_clock_57 (fun x17 hF => ?_)
      refine ab_aload_n X dX8_clock_60 rfl (lv_at hl 0 rfl) ?_
      refine ab_getD X S hF fi_4_4 lf_X8_156 dX8_clock_61 (fun x18 hF => ?_)
      obtain ⟨a22, e23, hF⟩ := bind_out hF
      obtain ⟨x19, h20, e21, hF⟩ := bnd_out hF
      refine ab_callVl X S e23 (c_X7_bits l D cA sz e21) rfl (by decide) mi_X7_bits lm_X8_196 li_yX7_bits ls_yX7_bits (As := [.double x18]) (rest := []) rfl ⟨by decide, by decide⟩ ⟨(by decide), (by decide)⟩ hl.1 rfl (by simp [ab_cat, ab_cI, ab_cJ, ab_cD, ab_cF]) dX8_clock_64 (fun H1 locs1 S => ?_)
      exact ab_lret X S hr hF dX8_clock_67
    have hF := ab_neg c16 hF
    by_cases c24 : p1 = 2
    · have hF := ab_pos c24 hF
      refine ab_tab (tgt := 68) X dX8_clock_15 c24 (by decide) (by decide) rfl (by decide) ?_
      refine ab_aload_n X dX8_clock_68 rfl (lv_at hl 1 rfl) ?_
      refine ab_getR X S hF fi_8_1 lf_X8_19 dX8_clock_69 (fun x25 hF => ?_)
      refine ab_aload_n X dX8_clock_72 rfl (lv_at hl 0 rfl) ?_
      refine ab_getR X S hF fi_4_11 lf_X8_200 dX8_clock_73 (fun x26 hF => ?_)
      refine ab_getD X S hF fi_6_12 lf_X8_203 dX8_clock_76 (fun x27 hF => ?_)
      obtain ⟨a31, e32, hF⟩ := bind_out hF
      obtain ⟨x28, h29, e30, hF⟩ := bnd_out hF
      refine ab_callVl X S e32 (c_X7_bits l D cA sz e30) rfl (by decide) mi_X7_bits lm_X8_196 li_yX7_bits ls_yX7_bits (As := [.double x27]) (rest := []) rfl ⟨by decide, by decide⟩ ⟨(by decide), (by decide)⟩ hl.1 rfl (by simp [ab_cat, ab_cI, ab_cJ, ab_cD, ab_cF]) dX8_clock_79 (fun H1 locs1 S => ?_)
      exact ab_lret X S hr hF dX8_clock_82
    have hF := ab_neg c24 hF
    by_cases c33 : p1 = 3
    · have hF := ab_pos c33 hF
      refine ab_tab (tgt := 83) X dX8_clock_15 c33 (by decide) (by decide) rfl (by decide) ?_
      refine ab_aload_n X dX8_clock_83 rfl (lv_at hl 1 rfl) ?_
      refine ab_getR X S hF fi_8_1 lf_X8_19 dX8_clock_84 (fun x34 hF => ?_)
      refine ab_aload_n X dX8_clock_87 rfl (lv_at hl 0 rfl) ?_
      refine ab_getR X S hF fi_4_11 lf_X8_200 dX8_clock_88 (fun x35 hF => ?_)
      refine ab_getD X S hF fi_6_4 lf_X8_206 dX8_clock_91 (fun x36 hF => ?_)
      obtain ⟨a40, e41, hF⟩ := bind_out hF
      obtain ⟨x37, h38, e39, hF⟩ := bnd_out hF
      refine ab_callVl X S e41 (c_X7_bits l D cA sz e39) rfl (by decide) mi_X7_bits lm_X8_196 li_yX7_bits ls_yX7_bits (As := [.double x36]) (rest := []) rfl ⟨by decide, by decide⟩ ⟨(by decide), (by decide)⟩ hl.1 rfl (by simp [ab_cat, ab_cI, ab_cJ, ab_cD, ab_cF]) dX8_clock_94 (fun H1 locs1 S => ?_)
      exact ab_lret X S hr hF dX8_clock_97
    have hF := ab_neg c33 hF
    cases hF
  · have hF := ab_neg c6 hF
    refine lv_ldc2 (v := (9221120237041090560)) X.1 X.2.1 X.2.2.2.1 (X.2.2.2.2.1 _ ll_X8_190) dX8_clock_10 ?_
    exact ab_lret X S hr hF dX8_clock_13
def f_X8_count_103  (u0 : Int32) (h : Hp) : Option (Int32 × Hp) :=
  some (u0, h)
set_option maxHeartbeats 4000000 in
set_option maxRecDepth 100000 in
theorem w_X8_count_103 {p : Program} {l : Launch} {e : Env} {s : State} {m : MethodId} {args : Array Value} {below : List Frame} {meth : Method} {c : Code} {D : va_G} {cA : Nat → ClassId} {sz : Nat} {rr : Int32} {hh : Hp}  (X : ab_X p s m args meth c cX8_count 4 RX8 D cA sz) (hr : meth.sig.returnType = (some .int))  {H : Heap} {locs : List Loc} {ls : Array Slot} {u0 : Int32} {h : Hp} (S : ab_H D cA sz h s H locs) (hl : lv_has ls 4 []) (hF : f_X8_count_103 u0 h = some (rr, hh)) : W p l e (ab_rm 1 0 0) s m args below meth c H locs 0 0 (MQ below (ab_Q D cA sz (some (.int rr)) hh) args s 0 0 (fun q => sz ≤ q)) (F0 m 103 ls [.int u0]) := by
  unfold f_X8_count_103 at hF
  exact ab_iret X S hr hF dX8_count_103
def f_X8_count (this : Nat) (p0 : Int32) (p1 : Int32) (h : Hp) : Option (Int32 × Hp) :=
  (ab_ck h (some this) (8, 0)).bind fun a4 =>
  bnd (f_X8_runAt a4 p0 h) fun x1 h2 =>
  if ¬ x1 = none then
    if p1.toInt < 0 ∨ 7 < p1.toInt then
      some ((-1), h2)
    else if p1 = 0 then
      (getR h2 x1 4 0).bind fun x9 =>
      (getI h2 x9 1 0).bind fun x10 =>
      some (x10, h2)
    else if p1 = 1 then
      (getI h2 x1 4 3).bind fun x12 =>
      some (x12, h2)
    else if p1 = 2 then
      (getI h2 x1 4 8).bind fun x14 =>
      some (x14, h2)
    else if p1 = 3 then
      (getI h2 x1 4 9).bind fun x16 =>
      some (x16, h2)
    else if p1 = 4 then
      (getR h2 x1 4 11).bind fun x18 =>
      (getI h2 x18 6 13).bind fun x19 =>
      some (x19, h2)
    else if p1 = 5 then
      (getI h2 x1 4 7).bind fun x21 =>
      if x21 = 0 then
        f_X8_count_103 0 h2
      else
        f_X8_count_103 1 h2
    else if p1 = 6 then
      (getR h2 x1 4 10).bind fun x24 =>
      (getI h2 x24 0 0).bind fun x25 =>
      some (x25, h2)
    else if p1 = 7 then
      (getR h2 x1 4 10).bind fun x27 =>
      (getI h2 x27 0 6).bind fun x28 =>
      some (x28, h2)
    else none
  else
    some ((-1), h2)
theorem mi_X8_count : ab_MI yX8_count cX8_count 4 (some .int) 2 := ⟨lc_yX8_count, lz_RX8, by decide, by decide, by decide +kernel⟩
set_option maxHeartbeats 4000000 in
set_option maxRecDepth 100000 in
theorem c_X8_count (l : Launch) (D : va_G) (cA : Nat → ClassId) (sz : Nat) {this : Nat} {p0 : Int32} {p1 : Int32} {h hh : Hp} {rr : Int32} (hF : f_X8_count this p0 p1 h = some (rr, hh)) : ab_C l D cA sz yX8_count cX8_count 4 (some .int) 1 0 0 [.ref this, .int p0, .int p1] h (some (.int rr)) hh := by
  refine Met.ofW (cc := cX8_count) (maxL := 4) (ret := (some .int)) (by decide) rfl ?_
  intro p e s m args below meth c s₁ B hml hv
  obtain ⟨rfl, hT, hR⟩ := hv
  have X : ab_X p s m _ meth c cX8_count 4 RX8 D cA sz := (ab_enter B hml hT hR).1
  have S := (ab_enter B hml hT hR).2
  have hr := B.returns
  obtain ⟨ls, hls, hl⟩ := ab_entry m [.ref this, .int p0, .int p1] 4 (lv := [(0, .ref this), (1, .int p0), (2, .int p1)]) (by simp [lg_sl, ab_cat, ab_cI, ab_cJ, ab_cD, ab_cF, ab_cA]) (by simp [lv_args, ab_cat, ab_cI, ab_cJ, ab_cD, ab_cF, ab_cA])
  rw [hls]
  have hl : lv_has ls 4 [(0, va_rf (some this)), (1, .int p0), (2, .int p1)] := hl
  unfold f_X8_count at hF
  show W p l e (ab_rm 1 0 0) s m _ below meth c s.heap [] 0 0 _ _
  refine ab_aload_n X dX8_count_0 rfl (lv_at hl 0 rfl) ?_
  refine lv_iload_n X.1 X.2.1 dX8_count_1 rfl (lv_at hl 1 rfl) ?_
  obtain ⟨a4, e5, hF⟩ := bind_out hF
  obtain ⟨x1, h2, e3, hF⟩ := bnd_out hF
  refine ab_callVa X S e5 (c_X8_runAt l D cA sz e3) rfl (by decide) mi_X8_runAt lm_X8_119 li_yX8_runAt ls_yX8_runAt (As := [.int p0]) (rest := []) rfl ⟨by decide, by decide⟩ ⟨(by decide), (by decide)⟩ hl.1 rfl (by simp [ab_cat, ab_cI, ab_cJ, ab_cD, ab_cF]) dX8_count_2 (fun H1 locs1 S => ?_)
  refine ab_astore_n (i := 3) (lv' := [(3, va_rf x1), (0, va_rf (some this)), (1, .int p0), (2, .int p1)]) X dX8_count_5 rfl hl (by decide) (by simp [ab_cat, ab_cI, ab_cJ, ab_cD, ab_cF]) (fun ls hl => ?_)
  refine ab_aload_n X dX8_count_6 rfl (lv_at hl 0 rfl) ?_
  refine ab_ifnonnull (tgt := 12) X dX8_count_7 (by decide) (fun c6 => ?_) (fun c6 => ?_)
  · have hF := ab_pos c6 hF
    refine lv_iload_n X.1 X.2.1 dX8_count_12 rfl (lv_at hl 3 rfl) ?_
    by_cases c7 : p1.toInt < 0 ∨ 7 < p1.toInt
    · have hF := ab_pos c7 hF
      refine lv_tableOut (tgt := 120) X.1 X.2.1 dX8_count_13 c7 (by decide) ?_
      refine lv_iconst (v := (-1)) X.1 X.2.1 dX8_count_120 (by decide) ?_
      exact ab_iret X S hr hF dX8_count_121
    have hF := ab_neg c7 hF
    by_cases c8 : p1 = 0
    · have hF := ab_pos c8 hF
      refine ab_tab (tgt := 60) X dX8_count_13 c8 (by decide) (by decide) rfl (by decide) ?_
      refine ab_aload_n X dX8_count_60 rfl (lv_at hl 0 rfl) ?_
      refine ab_getR X S hF fi_4_0 lf_X8_92 dX8_count_61 (fun x9 hF => ?_)
      refine ab_getI X S hF fi_1_0 lf_X8_209 dX8_count_64 (fun x10 hF => ?_)
      exact ab_iret X S hr hF dX8_count_67
    have hF := ab_neg c8 hF
    by_cases c11 : p1 = 1
    · have hF := ab_pos c11 hF
      refine ab_tab (tgt := 68) X dX8_count_13 c11 (by decide) (by decide) rfl (by decide) ?_
      refine ab_aload_n X dX8_count_68 rfl (lv_at hl 0 rfl) ?_
      refine ab_getI X S hF fi_4_3 lf_X8_143 dX8_count_69 (fun x12 hF => ?_)
      exact ab_iret X S hr hF dX8_count_72
    have hF := ab_neg c11 hF
    by_cases c13 : p1 = 2
    · have hF := ab_pos c13 hF
      refine ab_tab (tgt := 73) X dX8_count_13 c13 (by decide) (by decide) rfl (by decide) ?_
      refine ab_aload_n X dX8_count_73 rfl (lv_at hl 0 rfl) ?_
      refine ab_getI X S hF fi_4_8 lf_X8_212 dX8_count_74 (fun x14 hF => ?_)
      exact ab_iret X S hr hF dX8_count_77
    have hF := ab_neg c13 hF
    by_cases c15 : p1 = 3
    · have hF := ab_pos c15 hF
      refine ab_tab (tgt := 78) X dX8_count_13 c15 (by decide) (by decide) rfl (by decide) ?_
      refine ab_aload_n X dX8_count_78 rfl (lv_at hl 0 rfl) ?_
      refine ab_getI X S hF fi_4_9 lf_X8_215 dX8_count_79 (fun x16 hF => ?_)
      exact ab_iret X S hr hF dX8_count_82
    have hF := ab_neg c15 hF
    by_cases c17 : p1 = 4
    · have hF := ab_pos c17 hF
      refine ab_tab (tgt := 83) X dX8_count_13 c17 (by decide) (by decide) rfl (by decide) ?_
      refine ab_aload_n X dX8_count_83 rfl (lv_at hl 0 rfl) ?_
      refine ab_getR X S hF fi_4_11 lf_X8_200 dX8_count_84 (fun x18 hF => ?_)
      refine ab_getI X S hF fi_6_13 lf_X8_218 dX8_count_87 (fun x19 hF => ?_)
      exact ab_iret X S hr hF dX8_count_90
    have hF := ab_neg c17 hF
    by_cases c20 : p1 = 5
    · have hF := ab_pos c20 hF
      refine ab_tab (tgt := 91) X dX8_count_13 c20 (by decide) (by decide) rfl (by decide) ?_
      refine ab_aload_n X dX8_count_91 rfl (lv_at hl 0 rfl) ?_
      refine ab_getI X S hF fi_4_7 lf_X8_123 dX8_count_92 (fun x21 hF => ?_)
      refine lv_if_eq (tgt := 102) X.1 X.2.1 dX8_count_95 (by decide) (fun c22 => ?_) (fun c22 => ?_)
      · have hF := ab_pos c22 hF
        refine lv_iconst (v := 0) X.1 X.2.1 dX8_count_102 (by decide) ?_
        exact w_X8_count_103 X hr  S (lv_sub hl [] rfl) hF
      · have hF := ab_neg c22 hF
        refine lv_iconst (v := 1) X.1 X.2.1 dX8_count_98 (by decide) ?_
        refine lv_goto (tgt := 103) X.1 X.2.1 dX8_count_99 (by decide) ?_
        exact w_X8_count_103 X hr  S (lv_sub hl [] rfl) hF
    have hF := ab_neg c20 hF
    by_cases c23 : p1 = 6
    · have hF := ab_pos c23 hF
      refine ab_tab (tgt := 104) X dX8_count_13 c23 (by decide) (by decide) rfl (by decide) ?_
      refine ab_aload_n X dX8_count_104 rfl (lv_at hl 0 rfl) ?_
      refine ab_getR X S hF fi_4_10 lf_X8_166 dX8_count_105 (fun x24 hF => ?_)
      refine ab_getI X S hF fi_0_0 lf_X8_221 dX8_count_108 (fun x25 hF => ?_)
      exact ab_iret X S hr hF dX8_count_111
    have hF := ab_neg c23 hF
    by_cases c26 : p1 = 7
    · have hF := ab_pos c26 hF
      refine ab_tab (tgt := 112) X dX8_count_13 c26 (by decide) (by decide) rfl (by decide) ?_
      refine ab_aload_n X dX8_count_112 rfl (lv_at hl 0 rfl) ?_
      refine ab_getR X S hF fi_4_10 lf_X8_166 dX8_count_113 (fun x27 hF => ?_)
      refine ab_getI X S hF fi_0_6 lf_X8_224 dX8_count_116 (fun x28 hF => ?_)
      exact ab_iret X S hr hF dX8_count_119
    have hF := ab_neg c26 hF
    cases hF
  · have hF := ab_neg c6 hF
    refine lv_iconst (v := (-1)) X.1 X.2.1 dX8_count_10 (by decide) ?_
    exact ab_iret X S hr hF dX8_count_11
def f_X8_fired_24   (h : Hp) : Option (Int64 × Hp) :=
  some ((9221120237041090560), h)
set_option maxHeartbeats 4000000 in
set_option maxRecDepth 100000 in
theorem w_X8_fired_24 {p : Program} {l : Launch} {e : Env} {s : State} {m : MethodId} {args : Array Value} {below : List Frame} {meth : Method} {c : Code} {D : va_G} {cA : Nat → ClassId} {sz : Nat} {rr : Int64} {hh : Hp}  (X : ab_X p s m args meth c cX8_fired 5 RX8 D cA sz) (hr : meth.sig.returnType = (some .long))  {H : Heap} {locs : List Loc} {ls : Array Slot}  {h : Hp} (S : ab_H D cA sz h s H locs) (hl : lv_has ls 5 []) (hF : f_X8_fired_24  h = some (rr, hh)) : W p l e (ab_rm 2 0 0) s m args below meth c H locs 0 0 (MQ below (ab_Q D cA sz (some (.long rr)) hh) args s 0 0 (fun q => sz ≤ q)) (F0 m 24 ls []) := by
  unfold f_X8_fired_24 at hF
  refine lv_ldc2 (v := (9221120237041090560)) X.1 X.2.1 X.2.2.2.1 (X.2.2.2.2.1 _ ll_X8_190) dX8_fired_24 ?_
  exact ab_lret X S hr hF dX8_fired_27
def f_X8_fired_72  (u0 : Int64) (h : Hp) : Option (Int64 × Hp) :=
  some (u0, h)
set_option maxHeartbeats 4000000 in
set_option maxRecDepth 100000 in
theorem w_X8_fired_72 {p : Program} {l : Launch} {e : Env} {s : State} {m : MethodId} {args : Array Value} {below : List Frame} {meth : Method} {c : Code} {D : va_G} {cA : Nat → ClassId} {sz : Nat} {rr : Int64} {hh : Hp}  (X : ab_X p s m args meth c cX8_fired 5 RX8 D cA sz) (hr : meth.sig.returnType = (some .long))  {H : Heap} {locs : List Loc} {ls : Array Slot} {u0 : Int64} {h : Hp} (S : ab_H D cA sz h s H locs) (hl : lv_has ls 5 []) (hF : f_X8_fired_72 u0 h = some (rr, hh)) : W p l e (ab_rm 2 0 0) s m args below meth c H locs 0 0 (MQ below (ab_Q D cA sz (some (.long rr)) hh) args s 0 0 (fun q => sz ≤ q)) (F0 m 72 ls [.long u0]) := by
  unfold f_X8_fired_72 at hF
  exact ab_lret X S hr hF dX8_fired_72
def f_X8_fired (this : Nat) (p0 : Int32) (p1 : Int32) (p2 : Int32) (h : Hp) : Option (Int64 × Hp) :=
  (ab_ck h (some this) (8, 0)).bind fun a4 =>
  bnd (f_X8_runAt a4 p0 h) fun x1 h2 =>
  if x1 = none then
    f_X8_fired_24 h2
  else
    (getR h2 x1 4 10).bind fun x7 =>
    (ab_ck h2 x7 (0, 0)).bind fun a11 =>
    bnd (f_X0_hasFired a11 p1 h2) fun x8 h9 =>
    if ¬ x8 = 0 then
      if ¬ p2 = 0 then
        if ¬ p2 = 1 then
          f_X8_fired_72 (9221120237041090560) h9
        else
          (getR h9 (some this) 8 1).bind fun x16 =>
          (getR h9 x1 4 10).bind fun x17 =>
          (getR h9 x17 0 8).bind fun x18 =>
          (aldD h9 x18 p1).bind fun x19 =>
          (ab_ck h9 x16 (7, 0)).bind fun a23 =>
          bnd (f_X7_bits a23 x19 h9) fun x20 h21 =>
          f_X8_fired_72 x20 h21
      else
        (getR h9 x1 4 10).bind fun x25 =>
        (getR h9 x25 0 7).bind fun x26 =>
        (aldI h9 x26 11 p1).bind fun x27 =>
        some (x27.toInt64, h9)
    else
      f_X8_fired_24 h9
theorem mi_X8_fired : ab_MI yX8_fired cX8_fired 5 (some .long) 3 := ⟨lc_yX8_fired, lz_RX8, by decide, by decide, by decide +kernel⟩
set_option maxHeartbeats 4000000 in
set_option maxRecDepth 100000 in
theorem c_X8_fired (l : Launch) (D : va_G) (cA : Nat → ClassId) (sz : Nat) {this : Nat} {p0 : Int32} {p1 : Int32} {p2 : Int32} {h hh : Hp} {rr : Int64} (hF : f_X8_fired this p0 p1 p2 h = some (rr, hh)) : ab_C l D cA sz yX8_fired cX8_fired 5 (some .long) 2 0 0 [.ref this, .int p0, .int p1, .int p2] h (some (.long rr)) hh := by
  refine Met.ofW (cc := cX8_fired) (maxL := 5) (ret := (some .long)) (by decide) rfl ?_
  intro p e s m args below meth c s₁ B hml hv
  obtain ⟨rfl, hT, hR⟩ := hv
  have X : ab_X p s m _ meth c cX8_fired 5 RX8 D cA sz := (ab_enter B hml hT hR).1
  have S := (ab_enter B hml hT hR).2
  have hr := B.returns
  obtain ⟨ls, hls, hl⟩ := ab_entry m [.ref this, .int p0, .int p1, .int p2] 5 (lv := [(0, .ref this), (1, .int p0), (2, .int p1), (3, .int p2)]) (by simp [lg_sl, ab_cat, ab_cI, ab_cJ, ab_cD, ab_cF, ab_cA]) (by simp [lv_args, ab_cat, ab_cI, ab_cJ, ab_cD, ab_cF, ab_cA])
  rw [hls]
  have hl : lv_has ls 5 [(0, va_rf (some this)), (1, .int p0), (2, .int p1), (3, .int p2)] := hl
  unfold f_X8_fired at hF
  show W p l e (ab_rm 2 0 0) s m _ below meth c s.heap [] 0 0 _ _
  refine ab_aload_n X dX8_fired_0 rfl (lv_at hl 0 rfl) ?_
  refine lv_iload_n X.1 X.2.1 dX8_fired_1 rfl (lv_at hl 1 rfl) ?_
  obtain ⟨a4, e5, hF⟩ := bind_out hF
  obtain ⟨x1, h2, e3, hF⟩ := bnd_out hF
  refine ab_callVa X S e5 (c_X8_runAt l D cA sz e3) rfl (by decide) mi_X8_runAt lm_X8_119 li_yX8_runAt ls_yX8_runAt (As := [.int p0]) (rest := []) rfl ⟨by decide, by decide⟩ ⟨(by decide), (by decide)⟩ hl.1 rfl (by simp [ab_cat, ab_cI, ab_cJ, ab_cD, ab_cF]) dX8_fired_2 (fun H1 locs1 S => ?_)
  refine ab_astore (lv' := [(4, va_rf x1), (0, va_rf (some this)), (1, .int p0), (2, .int p1), (3, .int p2)]) X dX8_fired_5 hl (by decide) (by simp [ab_cat, ab_cI, ab_cJ, ab_cD, ab_cF]) (fun ls hl => ?_)
  refine ab_aload X dX8_fired_7 (lv_at hl 0 rfl) ?_
  refine ab_ifnull (tgt := 24) X dX8_fired_9 (by decide) (fun c6 => ?_) (fun c6 => ?_)
  · have hF := ab_pos c6 hF
    exact w_X8_fired_24 X hr  S (lv_sub hl [] rfl) hF
  · have hF := ab_neg c6 hF
    refine ab_aload X dX8_fired_12 (lv_at hl 0 rfl) ?_
    refine ab_getR X S hF fi_4_10 lf_X8_166 dX8_fired_14 (fun x7 hF => ?_)
    refine lv_iload_n X.1 X.2.1 dX8_fired_17 rfl (lv_at hl 3 rfl) ?_
    obtain ⟨a11, e12, hF⟩ := bind_out hF
    obtain ⟨x8, h9, e10, hF⟩ := bnd_out hF
    refine ab_callVi X S e12 (c_X0_hasFired l D cA sz e10) rfl (by decide) mi_X0_hasFired lm_X8_253 li_yX0_hasFired ls_yX0_hasFired (As := [.int p1]) (rest := []) rfl ⟨by decide, by decide⟩ ⟨(by decide), (by decide)⟩ hl.1 rfl (by simp [ab_cat, ab_cI, ab_cJ, ab_cD, ab_cF]) dX8_fired_18 (fun H1 locs1 S => ?_)
    refine lv_if_ne (tgt := 28) X.1 X.2.1 dX8_fired_21 (by decide) (fun c13 => ?_) (fun c13 => ?_)
    · have hF := ab_pos c13 hF
      refine lv_iload_n X.1 X.2.1 dX8_fired_28 rfl (lv_at hl 4 rfl) ?_
      refine lv_if_ne (tgt := 44) X.1 X.2.1 dX8_fired_29 (by decide) (fun c14 => ?_) (fun c14 => ?_)
      · have hF := ab_pos c14 hF
        refine lv_iload_n X.1 X.2.1 dX8_fired_44 rfl (lv_at hl 4 rfl) ?_
        refine lv_iconst (v := 1) X.1 X.2.1 dX8_fired_45 (by decide) ?_
        refine lv_icmp_ne (tgt := 69) X.1 X.2.1 dX8_fired_46 (by decide) (fun c15 => ?_) (fun c15 => ?_)
        · have hF := ab_pos c15 hF
          refine lv_ldc2 (v := (9221120237041090560)) X.1 X.2.1 X.2.2.2.1 (X.2.2.2.2.1 _ ll_X8_190) dX8_fired_69 ?_
          exact w_X8_fired_72 X hr  S (lv_sub hl [] rfl) hF
        · have hF := ab_neg (fun q => q c15) hF
          refine ab_aload_n X dX8_fired_49 rfl (lv_at hl 1 rfl) ?_
          refine ab_getR X S hF fi_8_1 lf_X8_19 dX8_fired_50 (fun x16 hF => ?_)
          refine ab_aload X dX8_fired_53 (lv_at hl 0 rfl) ?_
          refine ab_getR X S hF fi_4_10 lf_X8_166 dX8_fired_55 (fun x17 hF => ?_)
          refine ab_getR X S hF fi_0_8 lf_X8_259 dX8_fired_58 (fun x18 hF => ?_)
          refine lv_iload_n X.1 X.2.1 dX8_fired_61 rfl (lv_at hl 3 rfl) ?_
          refine ab_aldD X S hF dX8_fired_62 (fun x19 hF => ?_)
          obtain ⟨a23, e24, hF⟩ := bind_out hF
          obtain ⟨x20, h21, e22, hF⟩ := bnd_out hF
          refine ab_callVl X S e24 (c_X7_bits l D cA sz e22) rfl (by decide) mi_X7_bits lm_X8_196 li_yX7_bits ls_yX7_bits (As := [.double x19]) (rest := []) rfl ⟨by decide, by decide⟩ ⟨(by decide), (by decide)⟩ hl.1 rfl (by simp [ab_cat, ab_cI, ab_cJ, ab_cD, ab_cF]) dX8_fired_63 (fun H1 locs1 S => ?_)
          refine lv_goto (tgt := 72) X.1 X.2.1 dX8_fired_66 (by decide) ?_
          exact w_X8_fired_72 X hr  S (lv_sub hl [] rfl) hF
      · have hF := ab_neg (fun q => q c14) hF
        refine ab_aload X dX8_fired_32 (lv_at hl 0 rfl) ?_
        refine ab_getR X S hF fi_4_10 lf_X8_166 dX8_fired_34 (fun x25 hF => ?_)
        refine ab_getR X S hF fi_0_7 lf_X8_256 dX8_fired_37 (fun x26 hF => ?_)
        refine lv_iload_n X.1 X.2.1 dX8_fired_40 rfl (lv_at hl 3 rfl) ?_
        refine ab_aldI X S hF dX8_fired_41 (fun x27 hF => ?_)
        refine lv_i2l (v := x27.toInt64) X.1 X.2.1 dX8_fired_42 rfl ?_
        exact ab_lret X S hr hF dX8_fired_43
    · have hF := ab_neg (fun q => q c13) hF
      exact w_X8_fired_24 X hr  S (lv_sub hl [] rfl) hF
def f_X8_back_19   (h : Hp) : Option (Int32 × Hp) :=
  some ((-1), h)
set_option maxHeartbeats 4000000 in
set_option maxRecDepth 100000 in
theorem w_X8_back_19 {p : Program} {l : Launch} {e : Env} {s : State} {m : MethodId} {args : Array Value} {below : List Frame} {meth : Method} {c : Code} {D : va_G} {cA : Nat → ClassId} {sz : Nat} {rr : Int32} {hh : Hp}  (X : ab_X p s m args meth c cX8_back 5 RX8 D cA sz) (hr : meth.sig.returnType = (some .int))  {H : Heap} {locs : List Loc} {ls : Array Slot}  {h : Hp} (S : ab_H D cA sz h s H locs) (hl : lv_has ls 5 []) (hF : f_X8_back_19  h = some (rr, hh)) : W p l e (ab_rm 3 0 0) s m args below meth c H locs 0 0 (MQ below (ab_Q D cA sz (some (.int rr)) hh) args s 0 0 (fun q => sz ≤ q)) (F0 m 19 ls []) := by
  unfold f_X8_back_19 at hF
  refine lv_iconst (v := (-1)) X.1 X.2.1 dX8_back_19 (by decide) ?_
  exact ab_iret X S hr hF dX8_back_20
def f_X8_back (this : Nat) (p0 : Int32) (p1 : Int32) (h : Hp) : Option (Int32 × Hp) :=
  (ab_ck h (some this) (8, 0)).bind fun a4 =>
  bnd (f_X8_runAt a4 p0 h) fun x1 h2 =>
  if x1 = none then
    f_X8_back_19 h2
  else
    if p1 < 0 then
      f_X8_back_19 h2
    else
      if p1 < 4 then
        (getR h2 (some this) 8 8).bind fun x9 =>
        (aldR h2 x9 15 p1).bind fun x10 =>
        if ¬ x10 = none then
          (ab_ck h2 x1 (4, 0)).bind fun a15 =>
          bnd (f_X4_copy a15 x10 h2) fun _ h13 =>
          some (1, h13)
        else
          some ((-2), h2)
      else
        f_X8_back_19 h2
theorem mi_X8_back : ab_MI yX8_back cX8_back 5 (some .int) 2 := ⟨lc_yX8_back, lz_RX8, by decide, by decide, by decide +kernel⟩
set_option maxHeartbeats 4000000 in
set_option maxRecDepth 100000 in
theorem c_X8_back (l : Launch) (D : va_G) (cA : Nat → ClassId) (sz : Nat) {this : Nat} {p0 : Int32} {p1 : Int32} {h hh : Hp} {rr : Int32} (hF : f_X8_back this p0 p1 h = some (rr, hh)) : ab_C l D cA sz yX8_back cX8_back 5 (some .int) 3 0 0 [.ref this, .int p0, .int p1] h (some (.int rr)) hh := by
  refine Met.ofW (cc := cX8_back) (maxL := 5) (ret := (some .int)) (by decide) rfl ?_
  intro p e s m args below meth c s₁ B hml hv
  obtain ⟨rfl, hT, hR⟩ := hv
  have X : ab_X p s m _ meth c cX8_back 5 RX8 D cA sz := (ab_enter B hml hT hR).1
  have S := (ab_enter B hml hT hR).2
  have hr := B.returns
  obtain ⟨ls, hls, hl⟩ := ab_entry m [.ref this, .int p0, .int p1] 5 (lv := [(0, .ref this), (1, .int p0), (2, .int p1)]) (by simp [lg_sl, ab_cat, ab_cI, ab_cJ, ab_cD, ab_cF, ab_cA]) (by simp [lv_args, ab_cat, ab_cI, ab_cJ, ab_cD, ab_cF, ab_cA])
  rw [hls]
  have hl : lv_has ls 5 [(0, va_rf (some this)), (1, .int p0), (2, .int p1)] := hl
  unfold f_X8_back at hF
  show W p l e (ab_rm 3 0 0) s m _ below meth c s.heap [] 0 0 _ _
  refine ab_aload_n X dX8_back_0 rfl (lv_at hl 0 rfl) ?_
  refine lv_iload_n X.1 X.2.1 dX8_back_1 rfl (lv_at hl 1 rfl) ?_
  obtain ⟨a4, e5, hF⟩ := bind_out hF
  obtain ⟨x1, h2, e3, hF⟩ := bnd_out hF
  refine ab_callVa X S e5 (c_X8_runAt l D cA sz e3) rfl (by decide) mi_X8_runAt lm_X8_119 li_yX8_runAt ls_yX8_runAt (As := [.int p0]) (rest := []) rfl ⟨by decide, by decide⟩ ⟨(by decide), (by decide)⟩ hl.1 rfl (by simp [ab_cat, ab_cI, ab_cJ, ab_cD, ab_cF]) dX8_back_2 (fun H1 locs1 S => ?_)
  refine ab_astore_n (i := 3) (lv' := [(3, va_rf x1), (0, va_rf (some this)), (1, .int p0), (2, .int p1)]) X dX8_back_5 rfl hl (by decide) (by simp [ab_cat, ab_cI, ab_cJ, ab_cD, ab_cF]) (fun ls hl => ?_)
  refine ab_aload_n X dX8_back_6 rfl (lv_at hl 0 rfl) ?_
  refine ab_ifnull (tgt := 19) X dX8_back_7 (by decide) (fun c6 => ?_) (fun c6 => ?_)
  · have hF := ab_pos c6 hF
    exact w_X8_back_19 X hr  S (lv_sub hl [] rfl) hF
  · have hF := ab_neg c6 hF
    refine lv_iload_n X.1 X.2.1 dX8_back_10 rfl (lv_at hl 3 rfl) ?_
    refine lv_if_lt (tgt := 19) X.1 X.2.1 dX8_back_11 (by decide) (fun c7 => ?_) (fun c7 => ?_)
    · have hF := ab_pos c7 hF
      exact w_X8_back_19 X hr  S (lv_sub hl [] rfl) hF
    · have hF := ab_neg c7 hF
      refine lv_iload_n X.1 X.2.1 dX8_back_14 rfl (lv_at hl 3 rfl) ?_
      refine lv_iconst (v := 4) X.1 X.2.1 dX8_back_15 (by decide) ?_
      refine lv_icmp_lt (tgt := 21) X.1 X.2.1 dX8_back_16 (by decide) (fun c8 => ?_) (fun c8 => ?_)
      · have hF := ab_pos c8 hF
        refine ab_aload_n X dX8_back_21 rfl (lv_at hl 1 rfl) ?_
        refine ab_getR X S hF fi_8_8 lf_X8_41 dX8_back_22 (fun x9 hF => ?_)
        refine lv_iload_n X.1 X.2.1 dX8_back_25 rfl (lv_at hl 3 rfl) ?_
        refine ab_aldR X S hF rfl (by decide) dX8_back_26 (fun x10 hF => ?_)
        refine ab_astore (lv' := [(4, va_rf x10), (3, va_rf x1), (0, va_rf (some this)), (1, .int p0), (2, .int p1)]) X dX8_back_27 hl (by decide) (by simp [ab_cat, ab_cI, ab_cJ, ab_cD, ab_cF]) (fun ls hl => ?_)
        refine ab_aload X dX8_back_29 (lv_at hl 0 rfl) ?_
        refine ab_ifnonnull (tgt := 37) X dX8_back_31 (by decide) (fun c11 => ?_) (fun c11 => ?_)
        · have hF := ab_pos c11 hF
          refine ab_aload_n X dX8_back_37 rfl (lv_at hl 1 rfl) ?_
          refine ab_aload X dX8_back_38 (lv_at hl 0 rfl) ?_
          obtain ⟨a15, e16, hF⟩ := bind_out hF
          obtain ⟨x12, h13, e14, hF⟩ := bnd_out hF
          refine ab_callVv X S e16 (c_X4_copy l D cA sz e14) rfl (by decide) mi_X4_copy lm_X8_186 li_yX4_copy ls_yX4_copy (As := [va_rf x10]) (rest := []) rfl ⟨by decide, by decide⟩ ⟨(by decide), (by decide)⟩ hl.1 rfl (by simp [ab_cat, ab_cI, ab_cJ, ab_cD, ab_cF]) dX8_back_40 (fun H1 locs1 S => ?_)
          refine lv_iconst (v := 1) X.1 X.2.1 dX8_back_43 (by decide) ?_
          exact ab_iret X S hr hF dX8_back_44
        · have hF := ab_neg c11 hF
          refine lv_bipush (v := (-2)) X.1 X.2.1 dX8_back_34 (by decide) ?_
          exact ab_iret X S hr hF dX8_back_36
      · have hF := ab_neg c8 hF
        exact w_X8_back_19 X hr  S (lv_sub hl [] rfl) hF
def f_X8_store_38  (v1 : Option Nat) (v3 : Option Nat) (h : Hp) : Option (Option Nat × Hp) :=
  (ab_ck h v3 (4, 0)).bind fun a4 =>
  bnd (f_X4_copy a4 v1 h) fun _ h2 =>
  some (v3, h2)
set_option maxHeartbeats 4000000 in
set_option maxRecDepth 100000 in
theorem w_X8_store_38 {p : Program} {l : Launch} {e : Env} {s : State} {m : MethodId} {args : Array Value} {below : List Frame} {meth : Method} {c : Code} {D : va_G} {cA : Nat → ClassId} {sz : Nat} {rr : Option Nat} {hh : Hp}  (X : ab_X p s m args meth c cX8_store 4 RX8 D cA sz) (hr : meth.sig.returnType = (some (.object "MotionStepper$Run")))  {H : Heap} {locs : List Loc} {ls : Array Slot} {v1 : Option Nat} {v3 : Option Nat} {h : Hp} (S : ab_H D cA sz h s H locs) (hl : lv_has ls 4 [(1, va_rf v1), (3, va_rf v3)]) (hF : f_X8_store_38 v1 v3 h = some (rr, hh)) : W p l e (ab_rm 4 44 30057) s m args below meth c H locs 44 30057 (MQ below (ab_Q D cA sz (some (va_rf rr)) hh) args s 44 30057 (fun q => sz ≤ q)) (F0 m 38 ls []) := by
  unfold f_X8_store_38 at hF
  refine ab_aload_n X dX8_store_38 rfl (lv_at hl 1 rfl) ?_
  refine ab_aload_n X dX8_store_39 rfl (lv_at hl 0 rfl) ?_
  obtain ⟨a4, e5, hF⟩ := bind_out hF
  obtain ⟨x1, h2, e3, hF⟩ := bnd_out hF
  refine ab_callVv X S e5 (c_X4_copy l D cA sz e3) rfl (by decide) mi_X4_copy lm_X8_186 li_yX4_copy ls_yX4_copy (As := [va_rf v1]) (rest := []) rfl ⟨by decide, by decide⟩ ⟨(by decide), (by decide)⟩ hl.1 rfl (by simp [ab_cat, ab_cI, ab_cJ, ab_cD, ab_cF]) dX8_store_40 (fun H1 locs1 S => ?_)
  refine ab_aload_n X dX8_store_43 rfl (lv_at hl 1 rfl) ?_
  refine W.widen (k := 44) (n := 30057) (Nat.le_of_ble_eq_true rfl) (Nat.le_of_ble_eq_true rfl) ?_
  exact ab_aret X S hr hF dX8_store_44
def f_X8_store (this : Nat) (p0 : Option Nat) (p1 : Int32) (h : Hp) : Option (Option Nat × Hp) :=
  (getR h (some this) 8 8).bind fun x1 =>
  (aldR h x1 15 p1).bind fun x2 =>
  if ¬ x2 = none then
    f_X8_store_38 p0 x2 h
  else
    newo h 4 fun q5 h4 =>
    (getR h4 p0 4 0).bind fun x6 =>
    (getD h4 p0 4 1).bind fun x7 =>
    (getR h4 (some this) 8 0).bind fun x8 =>
    bnd (f_X4_init q5 x6 x7 x8 h4) fun _ h10 =>
    (getR h10 (some this) 8 8).bind fun x12 =>
    (astR h10 x12 15 p1 (some q5)).bind fun h13 =>
    f_X8_store_38 p0 (some q5) h13
theorem mi_X8_store : ab_MI yX8_store cX8_store 4 (some (.object "MotionStepper$Run")) 2 := ⟨lc_yX8_store, lz_RX8, by decide, by decide, by decide +kernel⟩
set_option maxHeartbeats 4000000 in
set_option maxRecDepth 100000 in
theorem c_X8_store (l : Launch) (D : va_G) (cA : Nat → ClassId) (sz : Nat) {this : Nat} {p0 : Option Nat} {p1 : Int32} {h hh : Hp} {rr : Option Nat} (hF : f_X8_store this p0 p1 h = some (rr, hh)) : ab_C l D cA sz yX8_store cX8_store 4 (some (.object "MotionStepper$Run")) 4 44 30057 [.ref this, va_rf p0, .int p1] h (some (va_rf rr)) hh := by
  refine Met.ofW (cc := cX8_store) (maxL := 4) (ret := (some (.object "MotionStepper$Run"))) (by decide) rfl ?_
  intro p e s m args below meth c s₁ B hml hv
  obtain ⟨rfl, hT, hR⟩ := hv
  have X : ab_X p s m _ meth c cX8_store 4 RX8 D cA sz := (ab_enter B hml hT hR).1
  have S := (ab_enter B hml hT hR).2
  have hr := B.returns
  obtain ⟨ls, hls, hl⟩ := ab_entry m [.ref this, va_rf p0, .int p1] 4 (lv := [(0, .ref this), (1, va_rf p0), (2, .int p1)]) (by simp [lg_sl, ab_cat, ab_cI, ab_cJ, ab_cD, ab_cF, ab_cA]) (by simp [lv_args, ab_cat, ab_cI, ab_cJ, ab_cD, ab_cF, ab_cA])
  rw [hls]
  have hl : lv_has ls 4 [(0, va_rf (some this)), (1, va_rf p0), (2, .int p1)] := hl
  unfold f_X8_store at hF
  show W p l e (ab_rm 4 44 30057) s m _ below meth c s.heap [] 0 0 _ _
  refine ab_aload_n X dX8_store_0 rfl (lv_at hl 0 rfl) ?_
  refine ab_getR X S hF fi_8_8 lf_X8_41 dX8_store_1 (fun x1 hF => ?_)
  refine lv_iload_n X.1 X.2.1 dX8_store_4 rfl (lv_at hl 2 rfl) ?_
  refine ab_aldR X S hF rfl (by decide) dX8_store_5 (fun x2 hF => ?_)
  refine ab_astore_n (i := 3) (lv' := [(3, va_rf x2), (0, va_rf (some this)), (1, va_rf p0), (2, .int p1)]) X dX8_store_6 rfl hl (by decide) (by simp [ab_cat, ab_cI, ab_cJ, ab_cD, ab_cF]) (fun ls hl => ?_)
  refine ab_aload_n X dX8_store_7 rfl (lv_at hl 0 rfl) ?_
  refine ab_ifnonnull (tgt := 38) X dX8_store_8 (by decide) (fun c3 => ?_) (fun c3 => ?_)
  · have hF := ab_pos c3 hF
    refine W.widen (k := 44) (n := 30057) (Nat.le_of_ble_eq_true rfl) (Nat.le_of_ble_eq_true rfl) ?_
    exact w_X8_store_38 X hr  S (lv_sub hl [2, 0] rfl) hF
  · have hF := ab_neg c3 hF
    refine ab_newx X S hF fi_4_0 ci_4 df_4 lk_X8_35 ln_RX4_12 lz_RX4 (by decide) (by decide) dX8_store_11 (fun q5 h4 H1 hF S => ?_)
    refine lv_dup X.1 X.2.1 dX8_store_14 (by simp [ab_cat, ab_cI, ab_cJ, ab_cD, ab_cF]) ?_
    refine ab_aload_n X dX8_store_15 rfl (lv_at hl 2 rfl) ?_
    refine ab_getR X S hF fi_4_0 lf_X8_92 dX8_store_16 (fun x6 hF => ?_)
    refine ab_aload_n X dX8_store_19 rfl (lv_at hl 2 rfl) ?_
    refine ab_getD X S hF fi_4_1 lf_X8_179 dX8_store_20 (fun x7 hF => ?_)
    refine ab_aload_n X dX8_store_23 rfl (lv_at hl 1 rfl) ?_
    refine ab_getR X S hF fi_8_0 lf_X8_10 dX8_store_24 (fun x8 hF => ?_)
    obtain ⟨x9, h10, e11, hF⟩ := bnd_out hF
    refine ab_callIv X S (c_X4_init l D cA sz e11) mi_X4_init rfl lm_X8_116 li_yX4_init (As := [va_rf x6, .double x7, va_rf x8]) (rest := [va_rf (some q5)]) rfl ⟨by decide, by decide⟩ ⟨(by decide), (by decide)⟩ hl.1 rfl (by simp [ab_cat, ab_cI, ab_cJ, ab_cD, ab_cF]) dX8_store_27 (fun H1 locs1 S => ?_)
    refine ab_astore_n (i := 3) (lv' := [(3, va_rf (some q5)), (0, va_rf (some this)), (1, va_rf p0), (2, .int p1)]) X dX8_store_30 rfl hl (by decide) (by simp [ab_cat, ab_cI, ab_cJ, ab_cD, ab_cF]) (fun ls hl => ?_)
    refine ab_aload_n X dX8_store_31 rfl (lv_at hl 1 rfl) ?_
    refine ab_getR X S hF fi_8_8 lf_X8_41 dX8_store_32 (fun x12 hF => ?_)
    refine lv_iload_n X.1 X.2.1 dX8_store_35 rfl (lv_at hl 3 rfl) ?_
    refine ab_aload_n X dX8_store_36 rfl (lv_at hl 0 rfl) ?_
    refine ab_astR X S hF rfl (by decide) rfl dX8_store_37 (fun h13 H1 locs1 hF S => ?_)
    refine W.widen (k := 44) (n := 30057) (Nat.le_of_ble_eq_true rfl) (Nat.le_of_ble_eq_true rfl) ?_
    exact w_X8_store_38 X hr  S (lv_sub hl [2, 0] rfl) hF
def f_X9_bits_16  (u0 : Int64) (h : Hp) : Option (Int64 × Hp) :=
  some (u0, h)
set_option maxHeartbeats 4000000 in
set_option maxRecDepth 100000 in
theorem w_X9_bits_16 {p : Program} {l : Launch} {e : Env} {s : State} {m : MethodId} {args : Array Value} {below : List Frame} {meth : Method} {c : Code} {D : va_G} {cA : Nat → ClassId} {sz : Nat} {rr : Int64} {hh : Hp}  (X : ab_X p s m args meth c cX9_bits 2 RX9 D cA sz) (hr : meth.sig.returnType = (some .long))  {H : Heap} {locs : List Loc} {ls : Array Slot} {u0 : Int64} {h : Hp} (S : ab_H D cA sz h s H locs) (hl : lv_has ls 2 []) (hF : f_X9_bits_16 u0 h = some (rr, hh)) : W p l e (ab_rm 2 0 0) s m args below meth c H locs 0 0 (MQ below (ab_Q D cA sz (some (.long rr)) hh) args s 0 0 (fun q => sz ≤ q)) (F0 m 16 ls [.long u0]) := by
  unfold f_X9_bits_16 at hF
  exact ab_lret X S hr hF dX9_bits_16
def f_X9_bits (p0 : UInt64) (h : Hp) : Option (Int64 × Hp) :=
  if (Op.cmpValue (FP.dcmp p0 p0) CmpOp.l) = 0 then
    bnd (f_Jxe99ae_doubleToLongBits_ccdee p0 h) fun x2 h3 =>
    f_X9_bits_16 x2 h3
  else
    f_X9_bits_16 (9221120237041090560) h
theorem mi_X9_bits : ab_MI yX9_bits cX9_bits 2 (some .long) 1 := ⟨lc_yX9_bits, lz_RX9, by decide, by decide, by decide +kernel⟩
set_option maxHeartbeats 4000000 in
set_option maxRecDepth 100000 in
theorem c_X9_bits (l : Launch) (D : va_G) (cA : Nat → ClassId) (sz : Nat) {p0 : UInt64} {h hh : Hp} {rr : Int64} (hF : f_X9_bits p0 h = some (rr, hh)) : ab_C l D cA sz yX9_bits cX9_bits 2 (some .long) 2 0 0 [.double p0] h (some (.long rr)) hh := by
  refine Met.ofW (cc := cX9_bits) (maxL := 2) (ret := (some .long)) (by decide) rfl ?_
  intro p e s m args below meth c s₁ B hml hv
  obtain ⟨rfl, hT, hR⟩ := hv
  have X : ab_X p s m _ meth c cX9_bits 2 RX9 D cA sz := (ab_enter B hml hT hR).1
  have S := (ab_enter B hml hT hR).2
  have hr := B.returns
  obtain ⟨ls, hls, hl⟩ := ab_entry m [.double p0] 2 (lv := [(0, .double p0)]) (by simp [lg_sl, ab_cat, ab_cI, ab_cJ, ab_cD, ab_cF, ab_cA]) (by simp [lv_args, ab_cat, ab_cI, ab_cJ, ab_cD, ab_cF, ab_cA])
  rw [hls]
  have hl : lv_has ls 2 [(0, .double p0)] := hl
  unfold f_X9_bits at hF
  show W p l e (ab_rm 2 0 0) s m _ below meth c s.heap [] 0 0 _ _
  refine lv_dload_n X.1 X.2.1 dX9_bits_0 rfl (lv_at hl 0 rfl) ?_
  refine lv_dload_n X.1 X.2.1 dX9_bits_1 rfl (lv_at hl 0 rfl) ?_
  refine lv_dcmp X.1 X.2.1 dX9_bits_2 ?_
  refine lv_if_eq (tgt := 12) X.1 X.2.1 dX9_bits_3 (by decide) (fun c1 => ?_) (fun c1 => ?_)
  · have hF := ab_pos c1 hF
    refine lv_dload_n X.1 X.2.1 dX9_bits_12 rfl (lv_at hl 0 rfl) ?_
    obtain ⟨x2, h3, e4, hF⟩ := bnd_out hF
    refine ab_callSl X S (c_Jxe99ae_doubleToLongBits_ccdee l D cA sz e4) mi_Jxe99ae_doubleToLongBits_ccdee lm_X9_200 lt_yJxe99ae_doubleToLongBits_ccdee (As := [.double p0]) (rest := []) rfl ⟨by decide, by decide⟩ ⟨(by decide), (by decide)⟩ hl.1 rfl (by simp [ab_cat, ab_cI, ab_cJ, ab_cD, ab_cF]) dX9_bits_13 (fun H1 locs1 S => ?_)
    exact w_X9_bits_16 X hr  S (lv_sub hl [] rfl) hF
  · have hF := ab_neg c1 hF
    refine lv_ldc2 (v := (9221120237041090560)) X.1 X.2.1 X.2.2.2.1 (X.2.2.2.2.1 _ ll_X9_198) dX9_bits_6 ?_
    refine lv_goto (tgt := 16) X.1 X.2.1 dX9_bits_9 (by decide) ?_
    exact w_X9_bits_16 X hr  S (lv_sub hl [] rfl) hF
def f_X9_made_215  (u0 : Int32) (h : Hp) : Option (Int32 × Hp) :=
  if u0 = 0 ∨ u0 = 1 then some (u0, h) else none
set_option maxHeartbeats 4000000 in
set_option maxRecDepth 100000 in
theorem w_X9_made_215 {p : Program} {l : Launch} {e : Env} {s : State} {m : MethodId} {args : Array Value} {below : List Frame} {meth : Method} {c : Code} {D : va_G} {cA : Nat → ClassId} {sz : Nat} {rr : Int32} {hh : Hp}  (X : ab_X p s m args meth c cX9_made 9 RX9 D cA sz) (hr : meth.sig.returnType = (some .boolean))  {H : Heap} {locs : List Loc} {ls : Array Slot} {u0 : Int32} {h : Hp} (S : ab_H D cA sz h s H locs) (hl : lv_has ls 9 []) (hF : f_X9_made_215 u0 h = some (rr, hh)) : W p l e (ab_rm 7 0 0) s m args below meth c H locs 0 0 (MQ below (ab_Q D cA sz (some (.int rr)) hh) args s 0 0 (fun q => sz ≤ q)) (F0 m 215 ls [.int u0]) := by
  unfold f_X9_made_215 at hF
  exact ab_zret X S hr hF dX9_made_215
def f_X9_made_210   (h : Hp) : Option (Int32 × Hp) :=
  f_X9_made_215 1 h
set_option maxHeartbeats 4000000 in
set_option maxRecDepth 100000 in
theorem w_X9_made_210 {p : Program} {l : Launch} {e : Env} {s : State} {m : MethodId} {args : Array Value} {below : List Frame} {meth : Method} {c : Code} {D : va_G} {cA : Nat → ClassId} {sz : Nat} {rr : Int32} {hh : Hp}  (X : ab_X p s m args meth c cX9_made 9 RX9 D cA sz) (hr : meth.sig.returnType = (some .boolean))  {H : Heap} {locs : List Loc} {ls : Array Slot}  {h : Hp} (S : ab_H D cA sz h s H locs) (hl : lv_has ls 9 []) (hF : f_X9_made_210  h = some (rr, hh)) : W p l e (ab_rm 7 0 0) s m args below meth c H locs 0 0 (MQ below (ab_Q D cA sz (some (.int rr)) hh) args s 0 0 (fun q => sz ≤ q)) (F0 m 210 ls []) := by
  unfold f_X9_made_210 at hF
  refine lv_iconst (v := 1) X.1 X.2.1 dX9_made_210 (by decide) ?_
  refine lv_goto (tgt := 215) X.1 X.2.1 dX9_made_211 (by decide) ?_
  exact w_X9_made_215 X hr  S (lv_sub hl [] rfl) hF
def f_X9_made_184 (k_151 : Option Nat → UInt64 → UInt64 → Int32 → Int32 → Hp → Option (Int32 × Hp)) (v0 : Option Nat) (v3 : UInt64) (v5 : UInt64) (v7 : Int32) (v8 : Int32) (u0 : Int32) (u1 : Option Nat) (h : Hp) : Option (Int32 × Hp) :=
  (putZ h u1 9 60 u0).bind fun h1 =>
  k_151 v0 v3 v5 v7 (v8 + 1) h1
set_option maxHeartbeats 4000000 in
set_option maxRecDepth 100000 in
theorem w_X9_made_184 {p : Program} {l : Launch} {e : Env} {s : State} {m : MethodId} {args : Array Value} {below : List Frame} {meth : Method} {c : Code} {D : va_G} {cA : Nat → ClassId} {sz : Nat} {rr : Int32} {hh : Hp} {k_151 : Option Nat → UInt64 → UInt64 → Int32 → Int32 → Hp → Option (Int32 × Hp)} (X : ab_X p s m args meth c cX9_made 9 RX9 D cA sz) (hr : meth.sig.returnType = (some .boolean)) (hk_151 : ∀ (v0 : Option Nat) (v3 : UInt64) (v5 : UInt64) (v7 : Int32) (v8 : Int32) (h : Hp) (H : Heap) (locs : List Loc) (ls : Array Slot), ab_H D cA sz h s H locs → lv_has ls 9 [(0, va_rf v0), (3, .double v3), (5, .double v5), (7, .int v7), (8, .int v8)] → k_151 v0 v3 v5 v7 v8 h = some (rr, hh) → W p l e (ab_rm 7 0 0) s m args below meth c H locs 0 0 (MQ below (ab_Q D cA sz (some (.int rr)) hh) args s 0 0 (fun q => sz ≤ q)) (F0 m 151 ls [])) {H : Heap} {locs : List Loc} {ls : Array Slot} {v0 : Option Nat} {v3 : UInt64} {v5 : UInt64} {v7 : Int32} {v8 : Int32} {u0 : Int32} {u1 : Option Nat} {h : Hp} (S : ab_H D cA sz h s H locs) (hl : lv_has ls 9 [(0, va_rf v0), (3, .double v3), (5, .double v5), (7, .int v7), (8, .int v8)]) (hF : f_X9_made_184 k_151 v0 v3 v5 v7 v8 u0 u1 h = some (rr, hh)) : W p l e (ab_rm 7 0 0) s m args below meth c H locs 0 0 (MQ below (ab_Q D cA sz (some (.int rr)) hh) args s 0 0 (fun q => sz ≤ q)) (F0 m 184 ls [.int u0, va_rf u1]) := by
  unfold f_X9_made_184 at hF
  refine ab_putZ X S hF fi_9_60 ci_9 (Or.inl rfl) rfl lf_X9_246 dX9_made_184 (fun h1 H1 locs1 hF S => ?_)
  refine lv_iinc (v := v8 + 1) (lv' := [(8, .int (v8 + 1)), (0, va_rf v0), (3, .double v3), (5, .double v5), (7, .int v7)]) X.1 X.2.1 dX9_made_187 hl (k := 4) rfl (by rfl) (by decide) (by simp [ab_cat, ab_cI, ab_cJ, ab_cD, ab_cF]) (fun ls hl => ?_)
  refine lv_goto (tgt := 151) X.1 X.2.1 dX9_made_190 (by decide) ?_
  exact hk_151 _ _ _ _ _ _ _ _ _ S (lv_sub hl [1, 2, 3, 4, 0] rfl) hF
def f_X9_made_179 (k_151 : Option Nat → UInt64 → UInt64 → Int32 → Int32 → Hp → Option (Int32 × Hp)) (v0 : Option Nat) (v3 : UInt64) (v5 : UInt64) (v7 : Int32) (v8 : Int32) (u0 : Option Nat) (h : Hp) : Option (Int32 × Hp) :=
  f_X9_made_184 k_151 v0 v3 v5 v7 v8 1 u0 h
set_option maxHeartbeats 4000000 in
set_option maxRecDepth 100000 in
theorem w_X9_made_179 {p : Program} {l : Launch} {e : Env} {s : State} {m : MethodId} {args : Array Value} {below : List Frame} {meth : Method} {c : Code} {D : va_G} {cA : Nat → ClassId} {sz : Nat} {rr : Int32} {hh : Hp} {k_151 : Option Nat → UInt64 → UInt64 → Int32 → Int32 → Hp → Option (Int32 × Hp)} (X : ab_X p s m args meth c cX9_made 9 RX9 D cA sz) (hr : meth.sig.returnType = (some .boolean)) (hk_151 : ∀ (v0 : Option Nat) (v3 : UInt64) (v5 : UInt64) (v7 : Int32) (v8 : Int32) (h : Hp) (H : Heap) (locs : List Loc) (ls : Array Slot), ab_H D cA sz h s H locs → lv_has ls 9 [(0, va_rf v0), (3, .double v3), (5, .double v5), (7, .int v7), (8, .int v8)] → k_151 v0 v3 v5 v7 v8 h = some (rr, hh) → W p l e (ab_rm 7 0 0) s m args below meth c H locs 0 0 (MQ below (ab_Q D cA sz (some (.int rr)) hh) args s 0 0 (fun q => sz ≤ q)) (F0 m 151 ls [])) {H : Heap} {locs : List Loc} {ls : Array Slot} {v0 : Option Nat} {v3 : UInt64} {v5 : UInt64} {v7 : Int32} {v8 : Int32} {u0 : Option Nat} {h : Hp} (S : ab_H D cA sz h s H locs) (hl : lv_has ls 9 [(0, va_rf v0), (3, .double v3), (5, .double v5), (7, .int v7), (8, .int v8)]) (hF : f_X9_made_179 k_151 v0 v3 v5 v7 v8 u0 h = some (rr, hh)) : W p l e (ab_rm 7 0 0) s m args below meth c H locs 0 0 (MQ below (ab_Q D cA sz (some (.int rr)) hh) args s 0 0 (fun q => sz ≤ q)) (F0 m 179 ls [va_rf u0]) := by
  unfold f_X9_made_179 at hF
  refine lv_iconst (v := 1) X.1 X.2.1 dX9_made_179 (by decide) ?_
  refine lv_goto (tgt := 184) X.1 X.2.1 dX9_made_180 (by decide) ?_
  exact w_X9_made_184 X hr hk_151 S (lv_sub hl [0, 1, 2, 3, 4] rfl) hF
def f_X9_made_151  : Nat → Option Nat → UInt64 → UInt64 → Int32 → Int32 → Hp → Option (Int32 × Hp)
  | 0, _, _, _, _, _, _ => none
  | n + 1, v0, v3, v5, v7, v8, h => if v7 ≤ v8 then
      (getI h v0 9 60).bind fun x2 =>
      if ¬ x2 = 0 then
        f_X9_made_210 h
      else
        (fop (FP.dadd v3 v5)).bind fun x4 =>
        bnd (f_X9_isFinite x4 h) fun x5 h6 =>
        if ¬ x5 = 0 then
          f_X9_made_215 0 h6
        else
          f_X9_made_210 h6
    else
      (getI h v0 9 60).bind fun x9 =>
      if ¬ x9 = 0 then
        f_X9_made_179 (f_X9_made_151 n) v0 v3 v5 v7 v8 v0 h
      else
        (getR h v0 9 49).bind fun x11 =>
        (aldD h x11 v8).bind fun x12 =>
        bnd (f_X9_isFinite x12 h) fun x13 h14 =>
        if ¬ x13 = 0 then
          f_X9_made_184 (f_X9_made_151 n) v0 v3 v5 v7 v8 0 v0 h14
        else
          f_X9_made_179 (f_X9_made_151 n) v0 v3 v5 v7 v8 v0 h14
set_option maxHeartbeats 4000000 in
set_option maxRecDepth 100000 in
theorem w_X9_made_151 {p : Program} {l : Launch} {e : Env} {s : State} {m : MethodId} {args : Array Value} {below : List Frame} {meth : Method} {c : Code} {D : va_G} {cA : Nat → ClassId} {sz : Nat} {rr : Int32} {hh : Hp}  (X : ab_X p s m args meth c cX9_made 9 RX9 D cA sz) (hr : meth.sig.returnType = (some .boolean))  (n : Nat) : ∀ (v0 : Option Nat) (v3 : UInt64) (v5 : UInt64) (v7 : Int32) (v8 : Int32) (h : Hp) (H : Heap) (locs : List Loc) (ls : Array Slot), ab_H D cA sz h s H locs → lv_has ls 9 [(0, va_rf v0), (3, .double v3), (5, .double v5), (7, .int v7), (8, .int v8)] → f_X9_made_151 n v0 v3 v5 v7 v8 h = some (rr, hh) → W p l e (ab_rm 7 0 0) s m args below meth c H locs 0 0 (MQ below (ab_Q D cA sz (some (.int rr)) hh) args s 0 0 (fun q => sz ≤ q)) (F0 m 151 ls []) := by
  induction n with
  | zero => intro v0 v3 v5 v7 v8 h H locs ls S hl hF; cases hF
  | succ n ih =>
    intro v0 v3 v5 v7 v8 h H locs ls S hl hF
    rw [f_X9_made_151] at hF
    refine lv_iload X.1 X.2.1 dX9_made_151 (lv_at hl 4 rfl) ?_
    refine lv_iload X.1 X.2.1 dX9_made_153 (lv_at hl 3 rfl) ?_
    refine lv_icmp_ge (tgt := 193) X.1 X.2.1 dX9_made_155 (by decide) (fun c1 => ?_) (fun c1 => ?_)
    · have hF := ab_pos c1 hF
      refine ab_aload_n X dX9_made_193 rfl (lv_at hl 0 rfl) ?_
      refine ab_getI X S hF fi_9_60 lf_X9_246 dX9_made_194 (fun x2 hF => ?_)
      refine lv_if_ne (tgt := 210) X.1 X.2.1 dX9_made_197 (by decide) (fun c3 => ?_) (fun c3 => ?_)
      · have hF := ab_pos c3 hF
        exact w_X9_made_210 X hr  S (lv_sub hl [] rfl) hF
      · have hF := ab_neg (fun q => q c3) hF
        refine lv_dload_n X.1 X.2.1 dX9_made_200 rfl (lv_at hl 1 rfl) ?_
        refine lv_dload X.1 X.2.1 dX9_made_201 (lv_at hl 2 rfl) ?_
        obtain ⟨x4, ev, ne, hF⟩ := ab_fopx hF
        refine lv_dadd X.1 X.2.1 dX9_made_203 ne ?_
        rw [ev]
        obtain ⟨x5, h6, e7, hF⟩ := bnd_out hF
        refine ab_callSi X S (c_X9_isFinite l D cA sz e7) mi_X9_isFinite lm_X9_193 lt_yX9_isFinite (As := [.double x4]) (rest := []) rfl ⟨by decide, by decide⟩ ⟨(by decide), (by decide)⟩ hl.1 rfl (by simp [ab_cat, ab_cI, ab_cJ, ab_cD, ab_cF]) dX9_made_204 (fun H1 locs1 S => ?_)
        refine lv_if_ne (tgt := 214) X.1 X.2.1 dX9_made_207 (by decide) (fun c8 => ?_) (fun c8 => ?_)
        · have hF := ab_pos c8 hF
          refine lv_iconst (v := 0) X.1 X.2.1 dX9_made_214 (by decide) ?_
          exact w_X9_made_215 X hr  S (lv_sub hl [] rfl) hF
        · have hF := ab_neg (fun q => q c8) hF
          exact w_X9_made_210 X hr  S (lv_sub hl [] rfl) hF
    · have hF := ab_neg c1 hF
      refine ab_aload_n X dX9_made_158 rfl (lv_at hl 0 rfl) ?_
      refine ab_aload_n X dX9_made_159 rfl (lv_at hl 0 rfl) ?_
      refine ab_getI X S hF fi_9_60 lf_X9_246 dX9_made_160 (fun x9 hF => ?_)
      refine lv_if_ne (tgt := 179) X.1 X.2.1 dX9_made_163 (by decide) (fun c10 => ?_) (fun c10 => ?_)
      · have hF := ab_pos c10 hF
        exact w_X9_made_179 X hr ih S (lv_sub hl [0, 1, 2, 3, 4] rfl) hF
      · have hF := ab_neg (fun q => q c10) hF
        refine ab_aload_n X dX9_made_166 rfl (lv_at hl 0 rfl) ?_
        refine ab_getR X S hF fi_9_49 lf_X9_152 dX9_made_167 (fun x11 hF => ?_)
        refine lv_iload X.1 X.2.1 dX9_made_170 (lv_at hl 4 rfl) ?_
        refine ab_aldD X S hF dX9_made_172 (fun x12 hF => ?_)
        obtain ⟨x13, h14, e15, hF⟩ := bnd_out hF
        refine ab_callSi X S (c_X9_isFinite l D cA sz e15) mi_X9_isFinite lm_X9_193 lt_yX9_isFinite (As := [.double x12]) (rest := [va_rf v0]) rfl ⟨by decide, by decide⟩ ⟨(by decide), (by decide)⟩ hl.1 rfl (by simp [ab_cat, ab_cI, ab_cJ, ab_cD, ab_cF]) dX9_made_173 (fun H1 locs1 S => ?_)
        refine lv_if_ne (tgt := 183) X.1 X.2.1 dX9_made_176 (by decide) (fun c16 => ?_) (fun c16 => ?_)
        · have hF := ab_pos c16 hF
          refine lv_iconst (v := 0) X.1 X.2.1 dX9_made_183 (by decide) ?_
          exact w_X9_made_184 X hr ih S (lv_sub hl [0, 1, 2, 3, 4] rfl) hF
        · have hF := ab_neg (fun q => q c16) hF
          exact w_X9_made_179 X hr ih S (lv_sub hl [0, 1, 2, 3, 4] rfl) hF
def f_X9_made_148  (v0 : Option Nat) (v3 : UInt64) (v5 : UInt64) (v7 : Int32) (h : Hp) : Option (Int32 × Hp) :=
  f_X9_made_151 fuelN v0 v3 v5 v7 0 h
set_option maxHeartbeats 4000000 in
set_option maxRecDepth 100000 in
theorem w_X9_made_148 {p : Program} {l : Launch} {e : Env} {s : State} {m : MethodId} {args : Array Value} {below : List Frame} {meth : Method} {c : Code} {D : va_G} {cA : Nat → ClassId} {sz : Nat} {rr : Int32} {hh : Hp}  (X : ab_X p s m args meth c cX9_made 9 RX9 D cA sz) (hr : meth.sig.returnType = (some .boolean))  {H : Heap} {locs : List Loc} {ls : Array Slot} {v0 : Option Nat} {v3 : UInt64} {v5 : UInt64} {v7 : Int32} {h : Hp} (S : ab_H D cA sz h s H locs) (hl : lv_has ls 9 [(0, va_rf v0), (3, .double v3), (5, .double v5), (7, .int v7)]) (hF : f_X9_made_148 v0 v3 v5 v7 h = some (rr, hh)) : W p l e (ab_rm 7 0 0) s m args below meth c H locs 0 0 (MQ below (ab_Q D cA sz (some (.int rr)) hh) args s 0 0 (fun q => sz ≤ q)) (F0 m 148 ls []) := by
  unfold f_X9_made_148 at hF
  refine lv_iconst (v := 0) X.1 X.2.1 dX9_made_148 (by decide) ?_
  refine lv_istore (lv' := [(8, .int 0), (0, va_rf v0), (3, .double v3), (5, .double v5), (7, .int v7)]) X.1 X.2.1 dX9_made_149 hl (by decide) (by simp [ab_cat, ab_cI, ab_cJ, ab_cD, ab_cF]) (fun ls hl => ?_)
  exact w_X9_made_151 X hr  fuelN _ _ _ _ _ _ _ _ _ S (lv_sub hl [1, 2, 3, 4, 0] rfl) hF
def f_X9_made (this : Nat) (p0 : Int32) (p1 : Int32) (p2 : UInt64) (p3 : UInt64) (h : Hp) : Option (Int32 × Hp) :=
  (getR h (some this) 9 0).bind fun x1 =>
  (aldI h x1 11 p0).bind fun x2 =>
  (putZ h (some this) 9 60 0).bind fun h3 =>
  (putI h3 (some this) 9 61 0).bind fun h4 =>
  (getR h4 (some this) 9 47).bind fun x5 =>
  (getR h4 (some this) 9 52).bind fun x6 =>
  (ab_ck h4 (some this) (9, 0)).bind fun a10 =>
  bnd (f_X9_rates a10 p0 p2 x5 x6 h4) fun _ h8 =>
  if ¬ p1 = 0 then
    if ¬ p1 = 1 then
      if ¬ p1 = 2 then
        if ¬ p1 = 3 then
          if ¬ p1 = 4 then
            if ¬ p1 = 5 then
              (ab_ck h8 (some this) (9, 0)).bind fun a21 =>
              bnd (f_X9_leap a21 p0 x2 p2 p3 h8) fun _ h19 =>
              f_X9_made_148 (some this) p2 p3 x2 h19
            else
              (ab_ck h8 (some this) (9, 0)).bind fun a26 =>
              bnd (f_X9_backward a26 p0 x2 p2 p3 h8) fun _ h24 =>
              f_X9_made_148 (some this) p2 p3 x2 h24
          else
            (ab_ck h8 (some this) (9, 0)).bind fun a31 =>
            bnd (f_X9_pair a31 p0 x2 p2 p3 h8) fun _ h29 =>
            f_X9_made_148 (some this) p2 p3 x2 h29
        else
          (ab_ck h8 (some this) (9, 0)).bind fun a36 =>
          bnd (f_X9_fourth a36 p0 x2 p2 p3 h8) fun _ h34 =>
          f_X9_made_148 (some this) p2 p3 x2 h34
      else
        (ab_ck h8 (some this) (9, 0)).bind fun a41 =>
        bnd (f_X9_third a41 p0 x2 p2 p3 h8) fun _ h39 =>
        f_X9_made_148 (some this) p2 p3 x2 h39
    else
      (ab_ck h8 (some this) (9, 0)).bind fun a46 =>
      bnd (f_X9_byMiddle a46 p0 x2 p2 p3 h8) fun _ h44 =>
      f_X9_made_148 (some this) p2 p3 x2 h44
  else
    (ab_ck h8 (some this) (9, 0)).bind fun a51 =>
    bnd (f_X9_plain a51 p0 x2 p3 h8) fun _ h49 =>
    f_X9_made_148 (some this) p2 p3 x2 h49
theorem mi_X9_made : ab_MI yX9_made cX9_made 9 (some .boolean) 4 := ⟨lc_yX9_made, lz_RX9, by decide, by decide, by decide +kernel⟩
set_option maxHeartbeats 4000000 in
set_option maxRecDepth 100000 in
theorem c_X9_made (l : Launch) (D : va_G) (cA : Nat → ClassId) (sz : Nat) {this : Nat} {p0 : Int32} {p1 : Int32} {p2 : UInt64} {p3 : UInt64} {h hh : Hp} {rr : Int32} (hF : f_X9_made this p0 p1 p2 p3 h = some (rr, hh)) : ab_C l D cA sz yX9_made cX9_made 9 (some .boolean) 7 0 0 [.ref this, .int p0, .int p1, .double p2, .double p3] h (some (.int rr)) hh := by
  refine Met.ofW (cc := cX9_made) (maxL := 9) (ret := (some .boolean)) (by decide) rfl ?_
  intro p e s m args below meth c s₁ B hml hv
  obtain ⟨rfl, hT, hR⟩ := hv
  have X : ab_X p s m _ meth c cX9_made 9 RX9 D cA sz := (ab_enter B hml hT hR).1
  have S := (ab_enter B hml hT hR).2
  have hr := B.returns
  obtain ⟨ls, hls, hl⟩ := ab_entry m [.ref this, .int p0, .int p1, .double p2, .double p3] 9 (lv := [(0, .ref this), (1, .int p0), (2, .int p1), (3, .double p2), (5, .double p3)]) (by simp [lg_sl, ab_cat, ab_cI, ab_cJ, ab_cD, ab_cF, ab_cA]) (by simp [lv_args, ab_cat, ab_cI, ab_cJ, ab_cD, ab_cF, ab_cA])
  rw [hls]
  have hl : lv_has ls 9 [(0, va_rf (some this)), (1, .int p0), (2, .int p1), (3, .double p2), (5, .double p3)] := hl
  unfold f_X9_made at hF
  show W p l e (ab_rm 7 0 0) s m _ below meth c s.heap [] 0 0 _ _
  refine ab_aload_n X dX9_made_0 rfl (lv_at hl 0 rfl) ?_
  refine ab_getR X S hF fi_9_0 lf_X9_9 dX9_made_1 (fun x1 hF => ?_)
  refine lv_iload_n X.1 X.2.1 dX9_made_4 rfl (lv_at hl 1 rfl) ?_
  refine ab_aldI X S hF dX9_made_5 (fun x2 hF => ?_)
  refine lv_istore (lv' := [(7, .int x2), (0, va_rf (some this)), (1, .int p0), (2, .int p1), (3, .double p2), (5, .double p3)]) X.1 X.2.1 dX9_made_6 hl (by decide) (by simp [ab_cat, ab_cI, ab_cJ, ab_cD, ab_cF]) (fun ls hl => ?_)
  refine ab_aload_n X dX9_made_8 rfl (lv_at hl 1 rfl) ?_
  refine lv_iconst (v := 0) X.1 X.2.1 dX9_made_9 (by decide) ?_
  refine ab_putZ X S hF fi_9_60 ci_9 (Or.inl rfl) rfl lf_X9_246 dX9_made_10 (fun h3 H1 locs1 hF S => ?_)
  refine ab_aload_n X dX9_made_13 rfl (lv_at hl 1 rfl) ?_
  refine lv_iconst (v := 0) X.1 X.2.1 dX9_made_14 (by decide) ?_
  refine ab_putI X S hF fi_9_61 ci_9 (Or.inl rfl) rfl lf_X9_250 dX9_made_15 (fun h4 H1 locs1 hF S => ?_)
  refine ab_aload_n X dX9_made_18 rfl (lv_at hl 1 rfl) ?_
  refine lv_iload_n X.1 X.2.1 dX9_made_19 rfl (lv_at hl 2 rfl) ?_
  refine lv_dload_n X.1 X.2.1 dX9_made_20 rfl (lv_at hl 4 rfl) ?_
  refine ab_aload_n X dX9_made_21 rfl (lv_at hl 1 rfl) ?_
  refine ab_getR X S hF fi_9_47 lf_X9_146 dX9_made_22 (fun x5 hF => ?_)
  refine ab_aload_n X dX9_made_25 rfl (lv_at hl 1 rfl) ?_
  refine ab_getR X S hF fi_9_52 lf_X9_161 dX9_made_26 (fun x6 hF => ?_)
  obtain ⟨a10, e11, hF⟩ := bind_out hF
  obtain ⟨x7, h8, e9, hF⟩ := bnd_out hF
  refine ab_callVv X S e11 (c_X9_rates l D cA sz e9) rfl (by decide) mi_X9_rates lm_X9_254 li_yX9_rates ls_yX9_rates (As := [.int p0, .double p2, va_rf x5, va_rf x6]) (rest := []) rfl ⟨by decide, by decide⟩ ⟨(by decide), (by decide)⟩ hl.1 rfl (by simp [ab_cat, ab_cI, ab_cJ, ab_cD, ab_cF]) dX9_made_29 (fun H1 locs1 S => ?_)
  refine lv_iload_n X.1 X.2.1 dX9_made_32 rfl (lv_at hl 3 rfl) ?_
  refine lv_if_ne (tgt := 48) X.1 X.2.1 dX9_made_33 (by decide) (fun c12 => ?_) (fun c12 => ?_)
  · have hF := ab_pos c12 hF
    refine lv_iload_n X.1 X.2.1 dX9_made_48 rfl (lv_at hl 3 rfl) ?_
    refine lv_iconst (v := 1) X.1 X.2.1 dX9_made_49 (by decide) ?_
    refine lv_icmp_ne (tgt := 66) X.1 X.2.1 dX9_made_50 (by decide) (fun c13 => ?_) (fun c13 => ?_)
    · have hF := ab_pos c13 hF
      refine lv_iload_n X.1 X.2.1 dX9_made_66 rfl (lv_at hl 3 rfl) ?_
      refine lv_iconst (v := 2) X.1 X.2.1 dX9_made_67 (by decide) ?_
      refine lv_icmp_ne (tgt := 84) X.1 X.2.1 dX9_made_68 (by decide) (fun c14 => ?_) (fun c14 => ?_)
      · have hF := ab_pos c14 hF
        refine lv_iload_n X.1 X.2.1 dX9_made_84 rfl (lv_at hl 3 rfl) ?_
        refine lv_iconst (v := 3) X.1 X.2.1 dX9_made_85 (by decide) ?_
        refine lv_icmp_ne (tgt := 102) X.1 X.2.1 dX9_made_86 (by decide) (fun c15 => ?_) (fun c15 => ?_)
        · have hF := ab_pos c15 hF
          refine lv_iload_n X.1 X.2.1 dX9_made_102 rfl (lv_at hl 3 rfl) ?_
          refine lv_iconst (v := 4) X.1 X.2.1 dX9_made_103 (by decide) ?_
          refine lv_icmp_ne (tgt := 120) X.1 X.2.1 dX9_made_104 (by decide) (fun c16 => ?_) (fun c16 => ?_)
          · have hF := ab_pos c16 hF
            refine lv_iload_n X.1 X.2.1 dX9_made_120 rfl (lv_at hl 3 rfl) ?_
            refine lv_iconst (v := 5) X.1 X.2.1 dX9_made_121 (by decide) ?_
            refine lv_icmp_ne (tgt := 138) X.1 X.2.1 dX9_made_122 (by decide) (fun c17 => ?_) (fun c17 => ?_)
            · have hF := ab_pos c17 hF
              refine ab_aload_n X dX9_made_138 rfl (lv_at hl 1 rfl) ?_
              refine lv_iload_n X.1 X.2.1 dX9_made_139 rfl (lv_at hl 2 rfl) ?_
              refine lv_iload X.1 X.2.1 dX9_made_140 (lv_at hl 0 rfl) ?_
              refine lv_dload_n X.1 X.2.1 dX9_made_142 rfl (lv_at hl 4 rfl) ?_
              refine lv_dload X.1 X.2.1 dX9_made_143 (lv_at hl 5 rfl) ?_
              obtain ⟨a21, e22, hF⟩ := bind_out hF
              obtain ⟨x18, h19, e20, hF⟩ := bnd_out hF
              refine ab_callVv X S e22 (c_X9_leap l D cA sz e20) rfl (by decide) mi_X9_leap lm_X9_278 li_yX9_leap ls_yX9_leap (As := [.int p0, .int x2, .double p2, .double p3]) (rest := []) rfl ⟨by decide, by decide⟩ ⟨(by decide), (by decide)⟩ hl.1 rfl (by simp [ab_cat, ab_cI, ab_cJ, ab_cD, ab_cF]) dX9_made_145 (fun H1 locs1 S => ?_)
              exact w_X9_made_148 X hr  S (lv_sub hl [1, 4, 5, 0] rfl) hF
            · have hF := ab_neg (fun q => q c17) hF
              refine ab_aload_n X dX9_made_125 rfl (lv_at hl 1 rfl) ?_
              refine lv_iload_n X.1 X.2.1 dX9_made_126 rfl (lv_at hl 2 rfl) ?_
              refine lv_iload X.1 X.2.1 dX9_made_127 (lv_at hl 0 rfl) ?_
              refine lv_dload_n X.1 X.2.1 dX9_made_129 rfl (lv_at hl 4 rfl) ?_
              refine lv_dload X.1 X.2.1 dX9_made_130 (lv_at hl 5 rfl) ?_
              obtain ⟨a26, e27, hF⟩ := bind_out hF
              obtain ⟨x23, h24, e25, hF⟩ := bnd_out hF
              refine ab_callVv X S e27 (c_X9_backward l D cA sz e25) rfl (by decide) mi_X9_backward lm_X9_275 li_yX9_backward ls_yX9_backward (As := [.int p0, .int x2, .double p2, .double p3]) (rest := []) rfl ⟨by decide, by decide⟩ ⟨(by decide), (by decide)⟩ hl.1 rfl (by simp [ab_cat, ab_cI, ab_cJ, ab_cD, ab_cF]) dX9_made_132 (fun H1 locs1 S => ?_)
              refine lv_goto (tgt := 148) X.1 X.2.1 dX9_made_135 (by decide) ?_
              exact w_X9_made_148 X hr  S (lv_sub hl [1, 4, 5, 0] rfl) hF
          · have hF := ab_neg (fun q => q c16) hF
            refine ab_aload_n X dX9_made_107 rfl (lv_at hl 1 rfl) ?_
            refine lv_iload_n X.1 X.2.1 dX9_made_108 rfl (lv_at hl 2 rfl) ?_
            refine lv_iload X.1 X.2.1 dX9_made_109 (lv_at hl 0 rfl) ?_
            refine lv_dload_n X.1 X.2.1 dX9_made_111 rfl (lv_at hl 4 rfl) ?_
            refine lv_dload X.1 X.2.1 dX9_made_112 (lv_at hl 5 rfl) ?_
            obtain ⟨a31, e32, hF⟩ := bind_out hF
            obtain ⟨x28, h29, e30, hF⟩ := bnd_out hF
            refine ab_callVv X S e32 (c_X9_pair l D cA sz e30) rfl (by decide) mi_X9_pair lm_X9_272 li_yX9_pair ls_yX9_pair (As := [.int p0, .int x2, .double p2, .double p3]) (rest := []) rfl ⟨by decide, by decide⟩ ⟨(by decide), (by decide)⟩ hl.1 rfl (by simp [ab_cat, ab_cI, ab_cJ, ab_cD, ab_cF]) dX9_made_114 (fun H1 locs1 S => ?_)
            refine lv_goto (tgt := 148) X.1 X.2.1 dX9_made_117 (by decide) ?_
            exact w_X9_made_148 X hr  S (lv_sub hl [1, 4, 5, 0] rfl) hF
        · have hF := ab_neg (fun q => q c15) hF
          refine ab_aload_n X dX9_made_89 rfl (lv_at hl 1 rfl) ?_
          refine lv_iload_n X.1 X.2.1 dX9_made_90 rfl (lv_at hl 2 rfl) ?_
          refine lv_iload X.1 X.2.1 dX9_made_91 (lv_at hl 0 rfl) ?_
          refine lv_dload_n X.1 X.2.1 dX9_made_93 rfl (lv_at hl 4 rfl) ?_
          refine lv_dload X.1 X.2.1 dX9_made_94 (lv_at hl 5 rfl) ?_
          obtain ⟨a36, e37, hF⟩ := bind_out hF
          obtain ⟨x33, h34, e35, hF⟩ := bnd_out hF
          refine ab_callVv X S e37 (c_X9_fourth l D cA sz e35) rfl (by decide) mi_X9_fourth lm_X9_269 li_yX9_fourth ls_yX9_fourth (As := [.int p0, .int x2, .double p2, .double p3]) (rest := []) rfl ⟨by decide, by decide⟩ ⟨(by decide), (by decide)⟩ hl.1 rfl (by simp [ab_cat, ab_cI, ab_cJ, ab_cD, ab_cF]) dX9_made_96 (fun H1 locs1 S => ?_)
          refine lv_goto (tgt := 148) X.1 X.2.1 dX9_made_99 (by decide) ?_
          exact w_X9_made_148 X hr  S (lv_sub hl [1, 4, 5, 0] rfl) hF
      · have hF := ab_neg (fun q => q c14) hF
        refine ab_aload_n X dX9_made_71 rfl (lv_at hl 1 rfl) ?_
        refine lv_iload_n X.1 X.2.1 dX9_made_72 rfl (lv_at hl 2 rfl) ?_
        refine lv_iload X.1 X.2.1 dX9_made_73 (lv_at hl 0 rfl) ?_
        refine lv_dload_n X.1 X.2.1 dX9_made_75 rfl (lv_at hl 4 rfl) ?_
        refine lv_dload X.1 X.2.1 dX9_made_76 (lv_at hl 5 rfl) ?_
        obtain ⟨a41, e42, hF⟩ := bind_out hF
        obtain ⟨x38, h39, e40, hF⟩ := bnd_out hF
        refine ab_callVv X S e42 (c_X9_third l D cA sz e40) rfl (by decide) mi_X9_third lm_X9_266 li_yX9_third ls_yX9_third (As := [.int p0, .int x2, .double p2, .double p3]) (rest := []) rfl ⟨by decide, by decide⟩ ⟨(by decide), (by decide)⟩ hl.1 rfl (by simp [ab_cat, ab_cI, ab_cJ, ab_cD, ab_cF]) dX9_made_78 (fun H1 locs1 S => ?_)
        refine lv_goto (tgt := 148) X.1 X.2.1 dX9_made_81 (by decide) ?_
        exact w_X9_made_148 X hr  S (lv_sub hl [1, 4, 5, 0] rfl) hF
    · have hF := ab_neg (fun q => q c13) hF
      refine ab_aload_n X dX9_made_53 rfl (lv_at hl 1 rfl) ?_
      refine lv_iload_n X.1 X.2.1 dX9_made_54 rfl (lv_at hl 2 rfl) ?_
      refine lv_iload X.1 X.2.1 dX9_made_55 (lv_at hl 0 rfl) ?_
      refine lv_dload_n X.1 X.2.1 dX9_made_57 rfl (lv_at hl 4 rfl) ?_
      refine lv_dload X.1 X.2.1 dX9_made_58 (lv_at hl 5 rfl) ?_
      obtain ⟨a46, e47, hF⟩ := bind_out hF
      obtain ⟨x43, h44, e45, hF⟩ := bnd_out hF
      refine ab_callVv X S e47 (c_X9_byMiddle l D cA sz e45) rfl (by decide) mi_X9_byMiddle lm_X9_262 li_yX9_byMiddle ls_yX9_byMiddle (As := [.int p0, .int x2, .double p2, .double p3]) (rest := []) rfl ⟨by decide, by decide⟩ ⟨(by decide), (by decide)⟩ hl.1 rfl (by simp [ab_cat, ab_cI, ab_cJ, ab_cD, ab_cF]) dX9_made_60 (fun H1 locs1 S => ?_)
      refine lv_goto (tgt := 148) X.1 X.2.1 dX9_made_63 (by decide) ?_
      exact w_X9_made_148 X hr  S (lv_sub hl [1, 4, 5, 0] rfl) hF
  · have hF := ab_neg (fun q => q c12) hF
    refine ab_aload_n X dX9_made_36 rfl (lv_at hl 1 rfl) ?_
    refine lv_iload_n X.1 X.2.1 dX9_made_37 rfl (lv_at hl 2 rfl) ?_
    refine lv_iload X.1 X.2.1 dX9_made_38 (lv_at hl 0 rfl) ?_
    refine lv_dload X.1 X.2.1 dX9_made_40 (lv_at hl 5 rfl) ?_
    obtain ⟨a51, e52, hF⟩ := bind_out hF
    obtain ⟨x48, h49, e50, hF⟩ := bnd_out hF
    refine ab_callVv X S e52 (c_X9_plain l D cA sz e50) rfl (by decide) mi_X9_plain lm_X9_258 li_yX9_plain ls_yX9_plain (As := [.int p0, .int x2, .double p3]) (rest := []) rfl ⟨by decide, by decide⟩ ⟨(by decide), (by decide)⟩ hl.1 rfl (by simp [ab_cat, ab_cI, ab_cJ, ab_cD, ab_cF]) dX9_made_42 (fun H1 locs1 S => ?_)
    refine lv_goto (tgt := 148) X.1 X.2.1 dX9_made_45 (by decide) ?_
    exact w_X9_made_148 X hr  S (lv_sub hl [1, 4, 5, 0] rfl) hF
