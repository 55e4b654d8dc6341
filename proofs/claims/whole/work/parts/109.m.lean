def f_X9_set_40   (h : Hp) : Option (Int32 × Hp) :=
  some ((-1), h)
set_option maxHeartbeats 4000000 in
set_option maxRecDepth 100000 in
theorem w_X9_set_40 {p : Program} {l : Launch} {e : Env} {s : State} {m : MethodId} {args : Array Value} {below : List Frame} {meth : Method} {c : Code} {D : va_G} {cA : Nat → ClassId} {sz : Nat} {rr : Int32} {hh : Hp}  (X : ab_X p s m args meth c cX9_set 6 RX9 D cA sz) (hr : meth.sig.returnType = (some .int))  {H : Heap} {locs : List Loc} {ls : Array Slot}  {h : Hp} (S : ab_H D cA sz h s H locs) (hl : lv_has ls 6 []) (hF : f_X9_set_40  h = some (rr, hh)) : W p l e (ab_rm 2 0 0) s m args below meth c H locs 0 0 (MQ below (ab_Q D cA sz (some (.int rr)) hh) args s 0 0 (fun q => sz ≤ q)) (F0 m 40 ls []) := by
  unfold f_X9_set_40 at hF
  refine lv_iconst (v := (-1)) X.1 X.2.1 dX9_set_40 (by decide) ?_
  exact ab_iret X S hr hF dX9_set_41
def f_X9_set (this : Nat) (p0 : Int32) (p1 : Int32) (p2 : Int64) (p3 : Int32) (h : Hp) : Option (Int32 × Hp) :=
  (ab_ck h (some this) (9, 0)).bind fun a4 =>
  bnd (f_X9_isRun a4 p0 h) fun x1 h2 =>
  if x1 = 0 then
    f_X9_set_40 h2
  else
    (getR h2 (some this) 9 0).bind fun x7 =>
    (getR h2 (some this) 9 15).bind fun x8 =>
    (aldI h2 x8 11 p0).bind fun x9 =>
    (aldI h2 x7 11 x9).bind fun x10 =>
    bnd (f_X9_in p1 0 (x10 - 1) h2) fun x11 h12 =>
    if x11 = 0 then
      f_X9_set_40 h12
    else
      bnd (f_X9_in p3 0 30 h12) fun x15 h16 =>
      if ¬ x15 = 0 then
        (getR h16 (some this) 9 22).bind fun x19 =>
        (aldI h16 x19 12 p0).bind fun x20 =>
        if x20 = 0 then
          (getR h16 (some this) 9 30).bind fun x22 =>
          (getR h16 (some this) 9 15).bind fun x23 =>
          (aldI h16 x23 11 p0).bind fun x24 =>
          bnd (f_X9_number p2 p3 h16) fun x25 h26 =>
          (ab_ck h26 (some this) (9, 0)).bind fun a31 =>
          bnd (f_X9_put a31 x24 p1 x25 h26) fun x28 h29 =>
          (astD h29 x22 ((6 * p0) + p1) x28).bind fun h33 =>
          some (1, h33)
        else
          some ((-2), h16)
      else
        f_X9_set_40 h16
theorem mi_X9_set : ab_MI yX9_set cX9_set 6 (some .int) 4 := ⟨lc_yX9_set, lz_RX9, by decide, by decide, by decide +kernel⟩
set_option maxHeartbeats 4000000 in
set_option maxRecDepth 100000 in
theorem c_X9_set (l : Launch) (D : va_G) (cA : Nat → ClassId) (sz : Nat) {this : Nat} {p0 : Int32} {p1 : Int32} {p2 : Int64} {p3 : Int32} {h hh : Hp} {rr : Int32} (hF : f_X9_set this p0 p1 p2 p3 h = some (rr, hh)) : ab_C l D cA sz yX9_set cX9_set 6 (some .int) 2 0 0 [.ref this, .int p0, .int p1, .long p2, .int p3] h (some (.int rr)) hh := by
  refine Met.ofW (cc := cX9_set) (maxL := 6) (ret := (some .int)) (by decide) rfl ?_
  intro p e s m args below meth c s₁ B hml hv
  obtain ⟨rfl, hT, hR⟩ := hv
  have X : ab_X p s m _ meth c cX9_set 6 RX9 D cA sz := (ab_enter B hml hT hR).1
  have S := (ab_enter B hml hT hR).2
  have hr := B.returns
  obtain ⟨ls, hls, hl⟩ := ab_entry m [.ref this, .int p0, .int p1, .long p2, .int p3] 6 (lv := [(0, .ref this), (1, .int p0), (2, .int p1), (3, .long p2), (5, .int p3)]) (by simp [lg_sl, ab_cat, ab_cI, ab_cJ, ab_cD, ab_cF, ab_cA]) (by simp [lv_args, ab_cat, ab_cI, ab_cJ, ab_cD, ab_cF, ab_cA])
  rw [hls]
  have hl : lv_has ls 6 [(0, va_rf (some this)), (1, .int p0), (2, .int p1), (3, .long p2), (5, .int p3)] := hl
  unfold f_X9_set at hF
  show W p l e (ab_rm 2 0 0) s m _ below meth c s.heap [] 0 0 _ _
  refine ab_aload_n X dX9_set_0 rfl (lv_at hl 0 rfl) ?_
  refine lv_iload_n X.1 X.2.1 dX9_set_1 rfl (lv_at hl 1 rfl) ?_
  obtain ⟨a4, e5, hF⟩ := bind_out hF
  obtain ⟨x1, h2, e3, hF⟩ := bnd_out hF
  refine ab_callVi X S e5 (c_X9_isRun l D cA sz e3) rfl (by decide) mi_X9_isRun lm_X9_366 li_yX9_isRun ls_yX9_isRun (As := [.int p0]) (rest := []) rfl ⟨by decide, by decide⟩ ⟨(by decide), (by decide)⟩ hl.1 rfl (by simp [ab_cat, ab_cI, ab_cJ, ab_cD, ab_cF]) dX9_set_2 (fun H1 locs1 S => ?_)
  refine lv_if_eq (tgt := 40) X.1 X.2.1 dX9_set_5 (by decide) (fun c6 => ?_) (fun c6 => ?_)
  · have hF := ab_pos c6 hF
    exact w_X9_set_40 X hr  S (lv_sub hl [] rfl) hF
  · have hF := ab_neg c6 hF
    refine lv_iload_n X.1 X.2.1 dX9_set_8 rfl (lv_at hl 2 rfl) ?_
    refine lv_iconst (v := 0) X.1 X.2.1 dX9_set_9 (by decide) ?_
    refine ab_aload_n X dX9_set_10 rfl (lv_at hl 0 rfl) ?_
    refine ab_getR X S hF fi_9_0 lf_X9_9 dX9_set_11 (fun x7 hF => ?_)
    refine ab_aload_n X dX9_set_14 rfl (lv_at hl 0 rfl) ?_
    refine ab_getR X S hF fi_9_15 lf_X9_52 dX9_set_15 (fun x8 hF => ?_)
    refine lv_iload_n X.1 X.2.1 dX9_set_18 rfl (lv_at hl 1 rfl) ?_
    refine ab_aldI X S hF dX9_set_19 (fun x9 hF => ?_)
    refine ab_aldI X S hF dX9_set_20 (fun x10 hF => ?_)
    refine lv_iconst (v := 1) X.1 X.2.1 dX9_set_21 (by decide) ?_
    refine lv_isub X.1 X.2.1 dX9_set_22 ?_
    obtain ⟨x11, h12, e13, hF⟩ := bnd_out hF
    refine ab_callSi X S (c_X9_in l D cA sz e13) mi_X9_in lm_X9_343 lt_yX9_in (As := [.int p1, .int 0, .int (x10 - 1)]) (rest := []) rfl ⟨by decide, by decide⟩ ⟨(by decide), (by decide)⟩ hl.1 rfl (by simp [ab_cat, ab_cI, ab_cJ, ab_cD, ab_cF]) dX9_set_23 (fun H1 locs1 S => ?_)
    refine lv_if_eq (tgt := 40) X.1 X.2.1 dX9_set_26 (by decide) (fun c14 => ?_) (fun c14 => ?_)
    · have hF := ab_pos c14 hF
      exact w_X9_set_40 X hr  S (lv_sub hl [] rfl) hF
    · have hF := ab_neg c14 hF
      refine lv_iload X.1 X.2.1 dX9_set_29 (lv_at hl 4 rfl) ?_
      refine lv_iconst (v := 0) X.1 X.2.1 dX9_set_31 (by decide) ?_
      refine lv_bipush (v := 30) X.1 X.2.1 dX9_set_32 (by decide) ?_
      obtain ⟨x15, h16, e17, hF⟩ := bnd_out hF
      refine ab_callSi X S (c_X9_in l D cA sz e17) mi_X9_in lm_X9_343 lt_yX9_in (As := [.int p3, .int 0, .int 30]) (rest := []) rfl ⟨by decide, by decide⟩ ⟨(by decide), (by decide)⟩ hl.1 rfl (by simp [ab_cat, ab_cI, ab_cJ, ab_cD, ab_cF]) dX9_set_34 (fun H1 locs1 S => ?_)
      refine lv_if_ne (tgt := 42) X.1 X.2.1 dX9_set_37 (by decide) (fun c18 => ?_) (fun c18 => ?_)
      · have hF := ab_pos c18 hF
        refine ab_aload_n X dX9_set_42 rfl (lv_at hl 0 rfl) ?_
        refine ab_getR X S hF fi_9_22 lf_X9_73 dX9_set_43 (fun x19 hF => ?_)
        refine lv_iload_n X.1 X.2.1 dX9_set_46 rfl (lv_at hl 1 rfl) ?_
        refine ab_aldZ X S hF dX9_set_47 (fun x20 hF => ?_)
        refine lv_if_eq (tgt := 54) X.1 X.2.1 dX9_set_48 (by decide) (fun c21 => ?_) (fun c21 => ?_)
        · have hF := ab_pos c21 hF
          refine ab_aload_n X dX9_set_54 rfl (lv_at hl 0 rfl) ?_
          refine ab_getR X S hF fi_9_30 lf_X9_98 dX9_set_55 (fun x22 hF => ?_)
          refine lv_bipush (v := 6) X.1 X.2.1 dX9_set_58 (by decide) ?_
          refine lv_iload_n X.1 X.2.1 dX9_set_60 rfl (lv_at hl 1 rfl) ?_
          refine lv_imul X.1 X.2.1 dX9_set_61 ?_
          refine lv_iload_n X.1 X.2.1 dX9_set_62 rfl (lv_at hl 2 rfl) ?_
          refine lv_iadd X.1 X.2.1 dX9_set_63 ?_
          refine ab_aload_n X dX9_set_64 rfl (lv_at hl 0 rfl) ?_
          refine ab_aload_n X dX9_set_65 rfl (lv_at hl 0 rfl) ?_
          refine ab_getR X S hF fi_9_15 lf_X9_52 dX9_set_66 (fun x23 hF => ?_)
          refine lv_iload_n X.1 X.2.1 dX9_set_69 rfl (lv_at hl 1 rfl) ?_
          refine ab_aldI X S hF dX9_set_70 (fun x24 hF => ?_)
          refine lv_iload_n X.1 X.2.1 dX9_set_71 rfl (lv_at hl 2 rfl) ?_
          refine lv_lload_n X.1 X.2.1 dX9_set_72 rfl (lv_at hl 3 rfl) ?_
          refine lv_iload X.1 X.2.1 dX9_set_73 (lv_at hl 4 rfl) ?_
          obtain ⟨x25, h26, e27, hF⟩ := bnd_out hF
          refine ab_callSd X S (c_X9_number l D cA sz e27) mi_X9_number lm_X9_354 lt_yX9_number (As := [.long p2, .int p3]) (rest := [.int p1, .int x24, va_rf (some this), .int ((6 * p0) + p1), va_rf x22]) rfl ⟨by decide, by decide⟩ ⟨(by decide), (by decide)⟩ hl.1 rfl (by simp [ab_cat, ab_cI, ab_cJ, ab_cD, ab_cF]) dX9_set_75 (fun H1 locs1 S => ?_)
          obtain ⟨a31, e32, hF⟩ := bind_out hF
          obtain ⟨x28, h29, e30, hF⟩ := bnd_out hF
          refine ab_callVd X S e32 (c_X9_put l D cA sz e30) rfl (by decide) mi_X9_put lm_X9_281 li_yX9_put ls_yX9_put (As := [.int x24, .int p1, .double x25]) (rest := [.int ((6 * p0) + p1), va_rf x22]) rfl ⟨by decide, by decide⟩ ⟨(by decide), (by decide)⟩ hl.1 rfl (by simp [ab_cat, ab_cI, ab_cJ, ab_cD, ab_cF]) dX9_set_78 (fun H1 locs1 S => ?_)
          refine ab_astD X S hF dX9_set_81 (fun h33 H1 locs1 hF S => ?_)
          refine lv_iconst (v := 1) X.1 X.2.1 dX9_set_82 (by decide) ?_
          exact ab_iret X S hr hF dX9_set_83
        · have hF := ab_neg c21 hF
          refine lv_bipush (v := (-2)) X.1 X.2.1 dX9_set_51 (by decide) ?_
          exact ab_iret X S hr hF dX9_set_53
      · have hF := ab_neg (fun q => q c18) hF
        exact w_X9_set_40 X hr  S (lv_sub hl [] rfl) hF
def f_X9_method_18   (h : Hp) : Option (Int32 × Hp) :=
  some ((-1), h)
set_option maxHeartbeats 4000000 in
set_option maxRecDepth 100000 in
theorem w_X9_method_18 {p : Program} {l : Launch} {e : Env} {s : State} {m : MethodId} {args : Array Value} {below : List Frame} {meth : Method} {c : Code} {D : va_G} {cA : Nat → ClassId} {sz : Nat} {rr : Int32} {hh : Hp}  (X : ab_X p s m args meth c cX9_method 3 RX9 D cA sz) (hr : meth.sig.returnType = (some .int))  {H : Heap} {locs : List Loc} {ls : Array Slot}  {h : Hp} (S : ab_H D cA sz h s H locs) (hl : lv_has ls 3 []) (hF : f_X9_method_18  h = some (rr, hh)) : W p l e (ab_rm 2 0 0) s m args below meth c H locs 0 0 (MQ below (ab_Q D cA sz (some (.int rr)) hh) args s 0 0 (fun q => sz ≤ q)) (F0 m 18 ls []) := by
  unfold f_X9_method_18 at hF
  refine lv_iconst (v := (-1)) X.1 X.2.1 dX9_method_18 (by decide) ?_
  exact ab_iret X S hr hF dX9_method_19
def f_X9_method_46  (v0 : Option Nat) (v1 : Int32) (v2 : Int32) (h : Hp) : Option (Int32 × Hp) :=
  (getR h v0 9 16).bind fun x1 =>
  (astI h x1 v1 v2).bind fun h2 =>
  some (1, h2)
set_option maxHeartbeats 4000000 in
set_option maxRecDepth 100000 in
theorem w_X9_method_46 {p : Program} {l : Launch} {e : Env} {s : State} {m : MethodId} {args : Array Value} {below : List Frame} {meth : Method} {c : Code} {D : va_G} {cA : Nat → ClassId} {sz : Nat} {rr : Int32} {hh : Hp}  (X : ab_X p s m args meth c cX9_method 3 RX9 D cA sz) (hr : meth.sig.returnType = (some .int))  {H : Heap} {locs : List Loc} {ls : Array Slot} {v0 : Option Nat} {v1 : Int32} {v2 : Int32} {h : Hp} (S : ab_H D cA sz h s H locs) (hl : lv_has ls 3 [(0, va_rf v0), (1, .int v1), (2, .int v2)]) (hF : f_X9_method_46 v0 v1 v2 h = some (rr, hh)) : W p l e (ab_rm 2 0 0) s m args below meth c H locs 0 0 (MQ below (ab_Q D cA sz (some (.int rr)) hh) args s 0 0 (fun q => sz ≤ q)) (F0 m 46 ls []) := by
  unfold f_X9_method_46 at hF
  refine ab_aload_n X dX9_method_46 rfl (lv_at hl 0 rfl) ?_
  refine ab_getR X S hF fi_9_16 lf_X9_55 dX9_method_47 (fun x1 hF => ?_)
  refine lv_iload_n X.1 X.2.1 dX9_method_50 rfl (lv_at hl 1 rfl) ?_
  refine lv_iload_n X.1 X.2.1 dX9_method_51 rfl (lv_at hl 2 rfl) ?_
  refine ab_astI X S hF dX9_method_52 (fun h2 H1 locs1 hF S => ?_)
  refine lv_iconst (v := 1) X.1 X.2.1 dX9_method_53 (by decide) ?_
  exact ab_iret X S hr hF dX9_method_54
def f_X9_method (this : Nat) (p0 : Int32) (p1 : Int32) (h : Hp) : Option (Int32 × Hp) :=
  (ab_ck h (some this) (9, 0)).bind fun a4 =>
  bnd (f_X9_isRun a4 p0 h) fun x1 h2 =>
  if x1 = 0 then
    f_X9_method_18 h2
  else
    bnd (f_X9_in p1 0 6 h2) fun x7 h8 =>
    if ¬ x7 = 0 then
      if ¬ p1 = 6 then
        f_X9_method_46 (some this) p0 p1 h8
      else
        (getR h8 (some this) 9 0).bind fun x12 =>
        (getR h8 (some this) 9 15).bind fun x13 =>
        (aldI h8 x13 11 p0).bind fun x14 =>
        (aldI h8 x12 11 x14).bind fun x15 =>
        if ¬ (x15 - x15 / 2 * 2) = 1 then
          f_X9_method_46 (some this) p0 p1 h8
        else
          some ((-2), h8)
    else
      f_X9_method_18 h8
theorem mi_X9_method : ab_MI yX9_method cX9_method 3 (some .int) 2 := ⟨lc_yX9_method, lz_RX9, by decide, by decide, by decide +kernel⟩
set_option maxHeartbeats 4000000 in
set_option maxRecDepth 100000 in
theorem c_X9_method (l : Launch) (D : va_G) (cA : Nat → ClassId) (sz : Nat) {this : Nat} {p0 : Int32} {p1 : Int32} {h hh : Hp} {rr : Int32} (hF : f_X9_method this p0 p1 h = some (rr, hh)) : ab_C l D cA sz yX9_method cX9_method 3 (some .int) 2 0 0 [.ref this, .int p0, .int p1] h (some (.int rr)) hh := by
  refine Met.ofW (cc := cX9_method) (maxL := 3) (ret := (some .int)) (by decide) rfl ?_
  intro p e s m args below meth c s₁ B hml hv
  obtain ⟨rfl, hT, hR⟩ := hv
  have X : ab_X p s m _ meth c cX9_method 3 RX9 D cA sz := (ab_enter B hml hT hR).1
  have S := (ab_enter B hml hT hR).2
  have hr := B.returns
  obtain ⟨ls, hls, hl⟩ := ab_entry m [.ref this, .int p0, .int p1] 3 (lv := [(0, .ref this), (1, .int p0), (2, .int p1)]) (by simp [lg_sl, ab_cat, ab_cI, ab_cJ, ab_cD, ab_cF, ab_cA]) (by simp [lv_args, ab_cat, ab_cI, ab_cJ, ab_cD, ab_cF, ab_cA])
  rw [hls]
  have hl : lv_has ls 3 [(0, va_rf (some this)), (1, .int p0), (2, .int p1)] := hl
  unfold f_X9_method at hF
  show W p l e (ab_rm 2 0 0) s m _ below meth c s.heap [] 0 0 _ _
  refine ab_aload_n X dX9_method_0 rfl (lv_at hl 0 rfl) ?_
  refine lv_iload_n X.1 X.2.1 dX9_method_1 rfl (lv_at hl 1 rfl) ?_
  obtain ⟨a4, e5, hF⟩ := bind_out hF
  obtain ⟨x1, h2, e3, hF⟩ := bnd_out hF
  refine ab_callVi X S e5 (c_X9_isRun l D cA sz e3) rfl (by decide) mi_X9_isRun lm_X9_366 li_yX9_isRun ls_yX9_isRun (As := [.int p0]) (rest := []) rfl ⟨by decide, by decide⟩ ⟨(by decide), (by decide)⟩ hl.1 rfl (by simp [ab_cat, ab_cI, ab_cJ, ab_cD, ab_cF]) dX9_method_2 (fun H1 locs1 S => ?_)
  refine lv_if_eq (tgt := 18) X.1 X.2.1 dX9_method_5 (by decide) (fun c6 => ?_) (fun c6 => ?_)
  · have hF := ab_pos c6 hF
    exact w_X9_method_18 X hr  S (lv_sub hl [] rfl) hF
  · have hF := ab_neg c6 hF
    refine lv_iload_n X.1 X.2.1 dX9_method_8 rfl (lv_at hl 2 rfl) ?_
    refine lv_iconst (v := 0) X.1 X.2.1 dX9_method_9 (by decide) ?_
    refine lv_bipush (v := 6) X.1 X.2.1 dX9_method_10 (by decide) ?_
    obtain ⟨x7, h8, e9, hF⟩ := bnd_out hF
    refine ab_callSi X S (c_X9_in l D cA sz e9) mi_X9_in lm_X9_343 lt_yX9_in (As := [.int p1, .int 0, .int 6]) (rest := []) rfl ⟨by decide, by decide⟩ ⟨(by decide), (by decide)⟩ hl.1 rfl (by simp [ab_cat, ab_cI, ab_cJ, ab_cD, ab_cF]) dX9_method_12 (fun H1 locs1 S => ?_)
    refine lv_if_ne (tgt := 20) X.1 X.2.1 dX9_method_15 (by decide) (fun c10 => ?_) (fun c10 => ?_)
    · have hF := ab_pos c10 hF
      refine lv_iload_n X.1 X.2.1 dX9_method_20 rfl (lv_at hl 2 rfl) ?_
      refine lv_bipush (v := 6) X.1 X.2.1 dX9_method_21 (by decide) ?_
      refine lv_icmp_ne (tgt := 46) X.1 X.2.1 dX9_method_23 (by decide) (fun c11 => ?_) (fun c11 => ?_)
      · have hF := ab_pos c11 hF
        exact w_X9_method_46 X hr  S (lv_sub hl [0, 1, 2] rfl) hF
      · have hF := ab_neg (fun q => q c11) hF
        refine ab_aload_n X dX9_method_26 rfl (lv_at hl 0 rfl) ?_
        refine ab_getR X S hF fi_9_0 lf_X9_9 dX9_method_27 (fun x12 hF => ?_)
        refine ab_aload_n X dX9_method_30 rfl (lv_at hl 0 rfl) ?_
        refine ab_getR X S hF fi_9_15 lf_X9_52 dX9_method_31 (fun x13 hF => ?_)
        refine lv_iload_n X.1 X.2.1 dX9_method_34 rfl (lv_at hl 1 rfl) ?_
        refine ab_aldI X S hF dX9_method_35 (fun x14 hF => ?_)
        refine ab_aldI X S hF dX9_method_36 (fun x15 hF => ?_)
        refine lv_iconst (v := 2) X.1 X.2.1 dX9_method_37 (by decide) ?_
        refine lv_irem X.1 X.2.1 dX9_method_38 (by decide) ?_
        refine lv_iconst (v := 1) X.1 X.2.1 dX9_method_39 (by decide) ?_
        refine lv_icmp_ne (tgt := 46) X.1 X.2.1 dX9_method_40 (by decide) (fun c16 => ?_) (fun c16 => ?_)
        · have hF := ab_pos c16 hF
          exact w_X9_method_46 X hr  S (lv_sub hl [0, 1, 2] rfl) hF
        · have hF := ab_neg (fun q => q c16) hF
          refine lv_bipush (v := (-2)) X.1 X.2.1 dX9_method_43 (by decide) ?_
          exact ab_iret X S hr hF dX9_method_45
    · have hF := ab_neg (fun q => q c10) hF
      exact w_X9_method_18 X hr  S (lv_sub hl [] rfl) hF
def f_X9_length_19   (h : Hp) : Option (Int32 × Hp) :=
  some ((-1), h)
set_option maxHeartbeats 4000000 in
set_option maxRecDepth 100000 in
theorem w_X9_length_19 {p : Program} {l : Launch} {e : Env} {s : State} {m : MethodId} {args : Array Value} {below : List Frame} {meth : Method} {c : Code} {D : va_G} {cA : Nat → ClassId} {sz : Nat} {rr : Int32} {hh : Hp}  (X : ab_X p s m args meth c cX9_length 7 RX9 D cA sz) (hr : meth.sig.returnType = (some .int))  {H : Heap} {locs : List Loc} {ls : Array Slot}  {h : Hp} (S : ab_H D cA sz h s H locs) (hl : lv_has ls 7 []) (hF : f_X9_length_19  h = some (rr, hh)) : W p l e (ab_rm 2 0 0) s m args below meth c H locs 0 0 (MQ below (ab_Q D cA sz (some (.int rr)) hh) args s 0 0 (fun q => sz ≤ q)) (F0 m 19 ls []) := by
  unfold f_X9_length_19 at hF
  refine lv_iconst (v := (-1)) X.1 X.2.1 dX9_length_19 (by decide) ?_
  exact ab_iret X S hr hF dX9_length_20
def f_X9_length_53   (h : Hp) : Option (Int32 × Hp) :=
  some ((-1), h)
set_option maxHeartbeats 4000000 in
set_option maxRecDepth 100000 in
theorem w_X9_length_53 {p : Program} {l : Launch} {e : Env} {s : State} {m : MethodId} {args : Array Value} {below : List Frame} {meth : Method} {c : Code} {D : va_G} {cA : Nat → ClassId} {sz : Nat} {rr : Int32} {hh : Hp}  (X : ab_X p s m args meth c cX9_length 7 RX9 D cA sz) (hr : meth.sig.returnType = (some .int))  {H : Heap} {locs : List Loc} {ls : Array Slot}  {h : Hp} (S : ab_H D cA sz h s H locs) (hl : lv_has ls 7 []) (hF : f_X9_length_53  h = some (rr, hh)) : W p l e (ab_rm 2 0 0) s m args below meth c H locs 0 0 (MQ below (ab_Q D cA sz (some (.int rr)) hh) args s 0 0 (fun q => sz ≤ q)) (F0 m 53 ls []) := by
  unfold f_X9_length_53 at hF
  refine lv_iconst (v := (-1)) X.1 X.2.1 dX9_length_53 (by decide) ?_
  exact ab_iret X S hr hF dX9_length_54
def f_X9_length (this : Nat) (p0 : Int32) (p1 : Int64) (p2 : Int32) (h : Hp) : Option (Int32 × Hp) :=
  (ab_ck h (some this) (9, 0)).bind fun a4 =>
  bnd (f_X9_isRun a4 p0 h) fun x1 h2 =>
  if x1 = 0 then
    f_X9_length_19 h2
  else
    bnd (f_X9_in p2 0 30 h2) fun x7 h8 =>
    if ¬ x7 = 0 then
      bnd (f_X9_number p1 p2 h8) fun x11 h12 =>
      bnd (f_X9_size x11 h12) fun x14 h15 =>
      if (Op.cmpValue (FP.dcmp x14 4472074429978902528) CmpOp.g) < 0 then
        f_X9_length_53 h15
      else
        bnd (f_X9_size x11 h15) fun x18 h19 =>
        if (Op.cmpValue (FP.dcmp x18 4652218415073722368) CmpOp.l) ≤ 0 then
          (getR h19 (some this) 9 26).bind fun x22 =>
          (astD h19 x22 p0 x11).bind fun h23 =>
          some (1, h23)
        else
          f_X9_length_53 h19
    else
      f_X9_length_19 h8
theorem mi_X9_length : ab_MI yX9_length cX9_length 7 (some .int) 3 := ⟨lc_yX9_length, lz_RX9, by decide, by decide, by decide +kernel⟩
set_option maxHeartbeats 4000000 in
set_option maxRecDepth 100000 in
theorem c_X9_length (l : Launch) (D : va_G) (cA : Nat → ClassId) (sz : Nat) {this : Nat} {p0 : Int32} {p1 : Int64} {p2 : Int32} {h hh : Hp} {rr : Int32} (hF : f_X9_length this p0 p1 p2 h = some (rr, hh)) : ab_C l D cA sz yX9_length cX9_length 7 (some .int) 2 0 0 [.ref this, .int p0, .long p1, .int p2] h (some (.int rr)) hh := by
  refine Met.ofW (cc := cX9_length) (maxL := 7) (ret := (some .int)) (by decide) rfl ?_
  intro p e s m args below meth c s₁ B hml hv
  obtain ⟨rfl, hT, hR⟩ := hv
  have X : ab_X p s m _ meth c cX9_length 7 RX9 D cA sz := (ab_enter B hml hT hR).1
  have S := (ab_enter B hml hT hR).2
  have hr := B.returns
  obtain ⟨ls, hls, hl⟩ := ab_entry m [.ref this, .int p0, .long p1, .int p2] 7 (lv := [(0, .ref this), (1, .int p0), (2, .long p1), (4, .int p2)]) (by simp [lg_sl, ab_cat, ab_cI, ab_cJ, ab_cD, ab_cF, ab_cA]) (by simp [lv_args, ab_cat, ab_cI, ab_cJ, ab_cD, ab_cF, ab_cA])
  rw [hls]
  have hl : lv_has ls 7 [(0, va_rf (some this)), (1, .int p0), (2, .long p1), (4, .int p2)] := hl
  unfold f_X9_length at hF
  show W p l e (ab_rm 2 0 0) s m _ below meth c s.heap [] 0 0 _ _
  refine ab_aload_n X dX9_length_0 rfl (lv_at hl 0 rfl) ?_
  refine lv_iload_n X.1 X.2.1 dX9_length_1 rfl (lv_at hl 1 rfl) ?_
  obtain ⟨a4, e5, hF⟩ := bind_out hF
  obtain ⟨x1, h2, e3, hF⟩ := bnd_out hF
  refine ab_callVi X S e5 (c_X9_isRun l D cA sz e3) rfl (by decide) mi_X9_isRun lm_X9_366 li_yX9_isRun ls_yX9_isRun (As := [.int p0]) (rest := []) rfl ⟨by decide, by decide⟩ ⟨(by decide), (by decide)⟩ hl.1 rfl (by simp [ab_cat, ab_cI, ab_cJ, ab_cD, ab_cF]) dX9_length_2 (fun H1 locs1 S => ?_)
  refine lv_if_eq (tgt := 19) X.1 X.2.1 dX9_length_5 (by decide) (fun c6 => ?_) (fun c6 => ?_)
  · have hF := ab_pos c6 hF
    exact w_X9_length_19 X hr  S (lv_sub hl [] rfl) hF
  · have hF := ab_neg c6 hF
    refine lv_iload X.1 X.2.1 dX9_length_8 (lv_at hl 3 rfl) ?_
    refine lv_iconst (v := 0) X.1 X.2.1 dX9_length_10 (by decide) ?_
    refine lv_bipush (v := 30) X.1 X.2.1 dX9_length_11 (by decide) ?_
    obtain ⟨x7, h8, e9, hF⟩ := bnd_out hF
    refine ab_callSi X S (c_X9_in l D cA sz e9) mi_X9_in lm_X9_343 lt_yX9_in (As := [.int p2, .int 0, .int 30]) (rest := []) rfl ⟨by decide, by decide⟩ ⟨(by decide), (by decide)⟩ hl.1 rfl (by simp [ab_cat, ab_cI, ab_cJ, ab_cD, ab_cF]) dX9_length_13 (fun H1 locs1 S => ?_)
    refine lv_if_ne (tgt := 21) X.1 X.2.1 dX9_length_16 (by decide) (fun c10 => ?_) (fun c10 => ?_)
    · have hF := ab_pos c10 hF
      refine lv_lload_n X.1 X.2.1 dX9_length_21 rfl (lv_at hl 2 rfl) ?_
      refine lv_iload X.1 X.2.1 dX9_length_22 (lv_at hl 3 rfl) ?_
      obtain ⟨x11, h12, e13, hF⟩ := bnd_out hF
      refine ab_callSd X S (c_X9_number l D cA sz e13) mi_X9_number lm_X9_354 lt_yX9_number (As := [.long p1, .int p2]) (rest := []) rfl ⟨by decide, by decide⟩ ⟨(by decide), (by decide)⟩ hl.1 rfl (by simp [ab_cat, ab_cI, ab_cJ, ab_cD, ab_cF]) dX9_length_24 (fun H1 locs1 S => ?_)
      refine lv_dstore (lv' := [(5, .double x11), (0, va_rf (some this)), (1, .int p0), (2, .long p1), (4, .int p2)]) X.1 X.2.1 dX9_length_27 hl (by decide) (by simp [ab_cat, ab_cI, ab_cJ, ab_cD, ab_cF]) (fun ls hl => ?_)
      refine lv_dload X.1 X.2.1 dX9_length_29 (lv_at hl 0 rfl) ?_
      obtain ⟨x14, h15, e16, hF⟩ := bnd_out hF
      refine ab_callSd X S (c_X9_size l D cA sz e16) mi_X9_size lm_X9_221 lt_yX9_size (As := [.double x11]) (rest := []) rfl ⟨by decide, by decide⟩ ⟨(by decide), (by decide)⟩ hl.1 rfl (by simp [ab_cat, ab_cI, ab_cJ, ab_cD, ab_cF]) dX9_length_31 (fun H1 locs1 S => ?_)
      refine lv_ldc2d (v := 4472074429978902528) X.1 X.2.1 X.2.2.2.1 (X.2.2.2.2.1 _ ld_X9_309) dX9_length_34 ?_
      refine lv_dcmp X.1 X.2.1 dX9_length_37 ?_
      refine lv_if_lt (tgt := 53) X.1 X.2.1 dX9_length_38 (by decide) (fun c17 => ?_) (fun c17 => ?_)
      · have hF := ab_pos c17 hF
        exact w_X9_length_53 X hr  S (lv_sub hl [] rfl) hF
      · have hF := ab_neg c17 hF
        refine lv_dload X.1 X.2.1 dX9_length_41 (lv_at hl 0 rfl) ?_
        obtain ⟨x18, h19, e20, hF⟩ := bnd_out hF
        refine ab_callSd X S (c_X9_size l D cA sz e20) mi_X9_size lm_X9_221 lt_yX9_size (As := [.double x11]) (rest := []) rfl ⟨by decide, by decide⟩ ⟨(by decide), (by decide)⟩ hl.1 rfl (by simp [ab_cat, ab_cI, ab_cJ, ab_cD, ab_cF]) dX9_length_43 (fun H1 locs1 S => ?_)
        refine lv_ldc2d (v := 4652218415073722368) X.1 X.2.1 X.2.2.2.1 (X.2.2.2.2.1 _ ld_X9_326) dX9_length_46 ?_
        refine lv_dcmp X.1 X.2.1 dX9_length_49 ?_
        refine lv_if_le (tgt := 55) X.1 X.2.1 dX9_length_50 (by decide) (fun c21 => ?_) (fun c21 => ?_)
        · have hF := ab_pos c21 hF
          refine ab_aload_n X dX9_length_55 rfl (lv_at hl 1 rfl) ?_
          refine ab_getR X S hF fi_9_26 lf_X9_86 dX9_length_56 (fun x22 hF => ?_)
          refine lv_iload_n X.1 X.2.1 dX9_length_59 rfl (lv_at hl 2 rfl) ?_
          refine lv_dload X.1 X.2.1 dX9_length_60 (lv_at hl 0 rfl) ?_
          refine ab_astD X S hF dX9_length_62 (fun h23 H1 locs1 hF S => ?_)
          refine lv_iconst (v := 1) X.1 X.2.1 dX9_length_63 (by decide) ?_
          exact ab_iret X S hr hF dX9_length_64
        · have hF := ab_neg c21 hF
          exact w_X9_length_53 X hr  S (lv_sub hl [] rfl) hF
    · have hF := ab_neg (fun q => q c10) hF
      exact w_X9_length_19 X hr  S (lv_sub hl [] rfl) hF
def f_X9_tolerance_32   (h : Hp) : Option (Int32 × Hp) :=
  some ((-1), h)
set_option maxHeartbeats 4000000 in
set_option maxRecDepth 100000 in
theorem w_X9_tolerance_32 {p : Program} {l : Launch} {e : Env} {s : State} {m : MethodId} {args : Array Value} {below : List Frame} {meth : Method} {c : Code} {D : va_G} {cA : Nat → ClassId} {sz : Nat} {rr : Int32} {hh : Hp}  (X : ab_X p s m args meth c cX9_tolerance 7 RX9 D cA sz) (hr : meth.sig.returnType = (some .int))  {H : Heap} {locs : List Loc} {ls : Array Slot}  {h : Hp} (S : ab_H D cA sz h s H locs) (hl : lv_has ls 7 []) (hF : f_X9_tolerance_32  h = some (rr, hh)) : W p l e (ab_rm 2 0 0) s m args below meth c H locs 0 0 (MQ below (ab_Q D cA sz (some (.int rr)) hh) args s 0 0 (fun q => sz ≤ q)) (F0 m 32 ls []) := by
  unfold f_X9_tolerance_32 at hF
  refine lv_iconst (v := (-1)) X.1 X.2.1 dX9_tolerance_32 (by decide) ?_
  exact ab_iret X S hr hF dX9_tolerance_33
def f_X9_tolerance (this : Nat) (p0 : Int32) (p1 : Int64) (p2 : Int64) (p3 : Int32) (h : Hp) : Option (Int32 × Hp) :=
  (ab_ck h (some this) (9, 0)).bind fun a4 =>
  bnd (f_X9_isRun a4 p0 h) fun x1 h2 =>
  if x1 = 0 then
    f_X9_tolerance_32 h2
  else
    bnd (f_X9_in p3 0 30 h2) fun x7 h8 =>
    if x7 = 0 then
      f_X9_tolerance_32 h8
    else
      if (lg_cmp p1 1) < 0 then
        f_X9_tolerance_32 h8
      else
        if 0 ≤ (lg_cmp p2 0) then
          (getR h8 (some this) 9 27).bind fun x13 =>
          bnd (f_X9_number p1 p3 h8) fun x14 h15 =>
          (astD h15 x13 p0 x14).bind fun h17 =>
          (getR h17 (some this) 9 28).bind fun x18 =>
          bnd (f_X9_number p2 p3 h17) fun x19 h20 =>
          (astD h20 x18 p0 x19).bind fun h22 =>
          some (1, h22)
        else
          f_X9_tolerance_32 h8
theorem mi_X9_tolerance : ab_MI yX9_tolerance cX9_tolerance 7 (some .int) 4 := ⟨lc_yX9_tolerance, lz_RX9, by decide, by decide, by decide +kernel⟩
set_option maxHeartbeats 4000000 in
set_option maxRecDepth 100000 in
theorem c_X9_tolerance (l : Launch) (D : va_G) (cA : Nat → ClassId) (sz : Nat) {this : Nat} {p0 : Int32} {p1 : Int64} {p2 : Int64} {p3 : Int32} {h hh : Hp} {rr : Int32} (hF : f_X9_tolerance this p0 p1 p2 p3 h = some (rr, hh)) : ab_C l D cA sz yX9_tolerance cX9_tolerance 7 (some .int) 2 0 0 [.ref this, .int p0, .long p1, .long p2, .int p3] h (some (.int rr)) hh := by
  refine Met.ofW (cc := cX9_tolerance) (maxL := 7) (ret := (some .int)) (by decide) rfl ?_
  intro p e s m args below meth c s₁ B hml hv
  obtain ⟨rfl, hT, hR⟩ := hv
  have X : ab_X p s m _ meth c cX9_tolerance 7 RX9 D cA sz := (ab_enter B hml hT hR).1
  have S := (ab_enter B hml hT hR).2
  have hr := B.returns
  obtain ⟨ls, hls, hl⟩ := ab_entry m [.ref this, .int p0, .long p1, .long p2, .int p3] 7 (lv := [(0, .ref this), (1, .int p0), (2, .long p1), (4, .long p2), (6, .int p3)]) (by simp [lg_sl, ab_cat, ab_cI, ab_cJ, ab_cD, ab_cF, ab_cA]) (by simp [lv_args, ab_cat, ab_cI, ab_cJ, ab_cD, ab_cF, ab_cA])
  rw [hls]
  have hl : lv_has ls 7 [(0, va_rf (some this)), (1, .int p0), (2, .long p1), (4, .long p2), (6, .int p3)] := hl
  unfold f_X9_tolerance at hF
  show W p l e (ab_rm 2 0 0) s m _ below meth c s.heap [] 0 0 _ _
  refine ab_aload_n X dX9_tolerance_0 rfl (lv_at hl 0 rfl) ?_
  refine lv_iload_n X.1 X.2.1 dX9_tolerance_1 rfl (lv_at hl 1 rfl) ?_
  obtain ⟨a4, e5, hF⟩ := bind_out hF
  obtain ⟨x1, h2, e3, hF⟩ := bnd_out hF
  refine ab_callVi X S e5 (c_X9_isRun l D cA sz e3) rfl (by decide) mi_X9_isRun lm_X9_366 li_yX9_isRun ls_yX9_isRun (As := [.int p0]) (rest := []) rfl ⟨by decide, by decide⟩ ⟨(by decide), (by decide)⟩ hl.1 rfl (by simp [ab_cat, ab_cI, ab_cJ, ab_cD, ab_cF]) dX9_tolerance_2 (fun H1 locs1 S => ?_)
  refine lv_if_eq (tgt := 32) X.1 X.2.1 dX9_tolerance_5 (by decide) (fun c6 => ?_) (fun c6 => ?_)
  · have hF := ab_pos c6 hF
    exact w_X9_tolerance_32 X hr  S (lv_sub hl [] rfl) hF
  · have hF := ab_neg c6 hF
    refine lv_iload X.1 X.2.1 dX9_tolerance_8 (lv_at hl 4 rfl) ?_
    refine lv_iconst (v := 0) X.1 X.2.1 dX9_tolerance_10 (by decide) ?_
    refine lv_bipush (v := 30) X.1 X.2.1 dX9_tolerance_11 (by decide) ?_
    obtain ⟨x7, h8, e9, hF⟩ := bnd_out hF
    refine ab_callSi X S (c_X9_in l D cA sz e9) mi_X9_in lm_X9_343 lt_yX9_in (As := [.int p3, .int 0, .int 30]) (rest := []) rfl ⟨by decide, by decide⟩ ⟨(by decide), (by decide)⟩ hl.1 rfl (by simp [ab_cat, ab_cI, ab_cJ, ab_cD, ab_cF]) dX9_tolerance_13 (fun H1 locs1 S => ?_)
    refine lv_if_eq (tgt := 32) X.1 X.2.1 dX9_tolerance_16 (by decide) (fun c10 => ?_) (fun c10 => ?_)
    · have hF := ab_pos c10 hF
      exact w_X9_tolerance_32 X hr  S (lv_sub hl [] rfl) hF
    · have hF := ab_neg c10 hF
      refine lv_lload_n X.1 X.2.1 dX9_tolerance_19 rfl (lv_at hl 2 rfl) ?_
      refine lv_lconst (v := 1) X.1 X.2.1 dX9_tolerance_20 (by decide) ?_
      refine W.lcmp X.1 X.2.1 dX9_tolerance_21 ?_
      refine lv_if_lt (tgt := 32) X.1 X.2.1 dX9_tolerance_22 (by decide) (fun c11 => ?_) (fun c11 => ?_)
      · have hF := ab_pos c11 hF
        exact w_X9_tolerance_32 X hr  S (lv_sub hl [] rfl) hF
      · have hF := ab_neg c11 hF
        refine lv_lload X.1 X.2.1 dX9_tolerance_25 (lv_at hl 3 rfl) ?_
        refine lv_lconst (v := 0) X.1 X.2.1 dX9_tolerance_27 (by decide) ?_
        refine W.lcmp X.1 X.2.1 dX9_tolerance_28 ?_
        refine lv_if_ge (tgt := 34) X.1 X.2.1 dX9_tolerance_29 (by decide) (fun c12 => ?_) (fun c12 => ?_)
        · have hF := ab_pos c12 hF
          refine ab_aload_n X dX9_tolerance_34 rfl (lv_at hl 0 rfl) ?_
          refine ab_getR X S hF fi_9_27 lf_X9_89 dX9_tolerance_35 (fun x13 hF => ?_)
          refine lv_iload_n X.1 X.2.1 dX9_tolerance_38 rfl (lv_at hl 1 rfl) ?_
          refine lv_lload_n X.1 X.2.1 dX9_tolerance_39 rfl (lv_at hl 2 rfl) ?_
          refine lv_iload X.1 X.2.1 dX9_tolerance_40 (lv_at hl 4 rfl) ?_
          obtain ⟨x14, h15, e16, hF⟩ := bnd_out hF
          refine ab_callSd X S (c_X9_number l D cA sz e16) mi_X9_number lm_X9_354 lt_yX9_number (As := [.long p1, .int p3]) (rest := [.int p0, va_rf x13]) rfl ⟨by decide, by decide⟩ ⟨(by decide), (by decide)⟩ hl.1 rfl (by simp [ab_cat, ab_cI, ab_cJ, ab_cD, ab_cF]) dX9_tolerance_42 (fun H1 locs1 S => ?_)
          refine ab_astD X S hF dX9_tolerance_45 (fun h17 H1 locs1 hF S => ?_)
          refine ab_aload_n X dX9_tolerance_46 rfl (lv_at hl 0 rfl) ?_
          refine ab_getR X S hF fi_9_28 lf_X9_92 dX9_tolerance_47 (fun x18 hF => ?_)
          refine lv_iload_n X.1 X.2.1 dX9_tolerance_50 rfl (lv_at hl 1 rfl) ?_
          refine lv_lload X.1 X.2.1 dX9_tolerance_51 (lv_at hl 3 rfl) ?_
          refine lv_iload X.1 X.2.1 dX9_tolerance_53 (lv_at hl 4 rfl) ?_
          obtain ⟨x19, h20, e21, hF⟩ := bnd_out hF
          refine ab_callSd X S (c_X9_number l D cA sz e21) mi_X9_number lm_X9_354 lt_yX9_number (As := [.long p2, .int p3]) (rest := [.int p0, va_rf x18]) rfl ⟨by decide, by decide⟩ ⟨(by decide), (by decide)⟩ hl.1 rfl (by simp [ab_cat, ab_cI, ab_cJ, ab_cD, ab_cF]) dX9_tolerance_55 (fun H1 locs1 S => ?_)
          refine ab_astD X S hF dX9_tolerance_58 (fun h22 H1 locs1 hF S => ?_)
          refine lv_iconst (v := 1) X.1 X.2.1 dX9_tolerance_59 (by decide) ?_
          exact ab_iret X S hr hF dX9_tolerance_60
        · have hF := ab_neg c12 hF
          exact w_X9_tolerance_32 X hr  S (lv_sub hl [] rfl) hF
def f_X9_event_48   (h : Hp) : Option (Int32 × Hp) :=
  some ((-1), h)
set_option maxHeartbeats 4000000 in
set_option maxRecDepth 100000 in
theorem w_X9_event_48 {p : Program} {l : Launch} {e : Env} {s : State} {m : MethodId} {args : Array Value} {below : List Frame} {meth : Method} {c : Code} {D : va_G} {cA : Nat → ClassId} {sz : Nat} {rr : Int32} {hh : Hp}  (X : ab_X p s m args meth c cX9_event 7 RX9 D cA sz) (hr : meth.sig.returnType = (some .int))  {H : Heap} {locs : List Loc} {ls : Array Slot}  {h : Hp} (S : ab_H D cA sz h s H locs) (hl : lv_has ls 7 []) (hF : f_X9_event_48  h = some (rr, hh)) : W p l e (ab_rm 2 0 0) s m args below meth c H locs 0 0 (MQ below (ab_Q D cA sz (some (.int rr)) hh) args s 0 0 (fun q => sz ≤ q)) (F0 m 48 ls []) := by
  unfold f_X9_event_48 at hF
  refine lv_iconst (v := (-1)) X.1 X.2.1 dX9_event_48 (by decide) ?_
  exact ab_iret X S hr hF dX9_event_49
def f_X9_event (this : Nat) (p0 : Int32) (p1 : Int32) (p2 : Int32) (p3 : Int32) (p4 : Int32) (h : Hp) : Option (Int32 × Hp) :=
  (ab_ck h (some this) (9, 0)).bind fun a4 =>
  bnd (f_X9_isRun a4 p0 h) fun x1 h2 =>
  if x1 = 0 then
    f_X9_event_48 h2
  else
    (getR h2 (some this) 9 2).bind fun x7 =>
    (getR h2 (some this) 9 15).bind fun x8 =>
    (aldI h2 x8 11 p0).bind fun x9 =>
    (aldI h2 x7 11 x9).bind fun x10 =>
    bnd (f_X9_in p1 0 (x10 - 1) h2) fun x11 h12 =>
    if x11 = 0 then
      f_X9_event_48 h12
    else
      bnd (f_X9_in p2 (-1) 1 h12) fun x15 h16 =>
      if x15 = 0 then
        f_X9_event_48 h16
      else
        bnd (f_X9_in p3 0 3 h16) fun x19 h20 =>
        if ¬ x19 = 0 then
          (getR h20 (some this) 9 17).bind fun x23 =>
          (aldI h20 x23 11 p0).bind fun x24 =>
          if ¬ x24 = 4 then
            (getR h20 (some this) 9 17).bind fun x26 =>
            (aldI h20 x26 11 p0).bind fun x27 =>
            (getR h20 (some this) 9 31).bind fun x28 =>
            (astI h20 x28 ((4 * p0) + x27) p1).bind fun h29 =>
            (getR h29 (some this) 9 32).bind fun x30 =>
            (astI h29 x30 ((4 * p0) + x27) p2).bind fun h31 =>
            (getR h31 (some this) 9 33).bind fun x32 =>
            (astI h31 x32 ((4 * p0) + x27) p3).bind fun h33 =>
            (getR h33 (some this) 9 34).bind fun x34 =>
            (astI h33 x34 ((4 * p0) + x27) p4).bind fun h35 =>
            (getR h35 (some this) 9 17).bind fun x36 =>
            (aldI h35 x36 11 p0).bind fun x37 =>
            (astI h35 x36 p0 (x37 + 1)).bind fun h38 =>
            (getR h38 (some this) 9 17).bind fun x39 =>
            (aldI h38 x39 11 p0).bind fun x40 =>
            some (x40 - 1, h38)
          else
            some ((-3), h20)
        else
          f_X9_event_48 h20
theorem mi_X9_event : ab_MI yX9_event cX9_event 7 (some .int) 5 := ⟨lc_yX9_event, lz_RX9, by decide, by decide, by decide +kernel⟩
set_option maxHeartbeats 4000000 in
set_option maxRecDepth 100000 in
theorem c_X9_event (l : Launch) (D : va_G) (cA : Nat → ClassId) (sz : Nat) {this : Nat} {p0 : Int32} {p1 : Int32} {p2 : Int32} {p3 : Int32} {p4 : Int32} {h hh : Hp} {rr : Int32} (hF : f_X9_event this p0 p1 p2 p3 p4 h = some (rr, hh)) : ab_C l D cA sz yX9_event cX9_event 7 (some .int) 2 0 0 [.ref this, .int p0, .int p1, .int p2, .int p3, .int p4] h (some (.int rr)) hh := by
  refine Met.ofW (cc := cX9_event) (maxL := 7) (ret := (some .int)) (by decide) rfl ?_
  intro p e s m args below meth c s₁ B hml hv
  obtain ⟨rfl, hT, hR⟩ := hv
  have X : ab_X p s m _ meth c cX9_event 7 RX9 D cA sz := (ab_enter B hml hT hR).1
  have S := (ab_enter B hml hT hR).2
  have hr := B.returns
  obtain ⟨ls, hls, hl⟩ := ab_entry m [.ref this, .int p0, .int p1, .int p2, .int p3, .int p4] 7 (lv := [(0, .ref this), (1, .int p0), (2, .int p1), (3, .int p2), (4, .int p3), (5, .int p4)]) (by simp [lg_sl, ab_cat, ab_cI, ab_cJ, ab_cD, ab_cF, ab_cA]) (by simp [lv_args, ab_cat, ab_cI, ab_cJ, ab_cD, ab_cF, ab_cA])
  rw [hls]
  have hl : lv_has ls 7 [(0, va_rf (some this)), (1, .int p0), (2, .int p1), (3, .int p2), (4, .int p3), (5, .int p4)] := hl
  unfold f_X9_event at hF
  show W p l e (ab_rm 2 0 0) s m _ below meth c s.heap [] 0 0 _ _
  refine ab_aload_n X dX9_event_0 rfl (lv_at hl 0 rfl) ?_
  refine lv_iload_n X.1 X.2.1 dX9_event_1 rfl (lv_at hl 1 rfl) ?_
  obtain ⟨a4, e5, hF⟩ := bind_out hF
  obtain ⟨x1, h2, e3, hF⟩ := bnd_out hF
  refine ab_callVi X S e5 (c_X9_isRun l D cA sz e3) rfl (by decide) mi_X9_isRun lm_X9_366 li_yX9_isRun ls_yX9_isRun (As := [.int p0]) (rest := []) rfl ⟨by decide, by decide⟩ ⟨(by decide), (by decide)⟩ hl.1 rfl (by simp [ab_cat, ab_cI, ab_cJ, ab_cD, ab_cF]) dX9_event_2 (fun H1 locs1 S => ?_)
  refine lv_if_eq (tgt := 48) X.1 X.2.1 dX9_event_5 (by decide) (fun c6 => ?_) (fun c6 => ?_)
  · have hF := ab_pos c6 hF
    exact w_X9_event_48 X hr  S (lv_sub hl [] rfl) hF
  · have hF := ab_neg c6 hF
    refine lv_iload_n X.1 X.2.1 dX9_event_8 rfl (lv_at hl 2 rfl) ?_
    refine lv_iconst (v := 0) X.1 X.2.1 dX9_event_9 (by decide) ?_
    refine ab_aload_n X dX9_event_10 rfl (lv_at hl 0 rfl) ?_
    refine ab_getR X S hF fi_9_2 lf_X9_18 dX9_event_11 (fun x7 hF => ?_)
    refine ab_aload_n X dX9_event_14 rfl (lv_at hl 0 rfl) ?_
    refine ab_getR X S hF fi_9_15 lf_X9_52 dX9_event_15 (fun x8 hF => ?_)
    refine lv_iload_n X.1 X.2.1 dX9_event_18 rfl (lv_at hl 1 rfl) ?_
    refine ab_aldI X S hF dX9_event_19 (fun x9 hF => ?_)
    refine ab_aldI X S hF dX9_event_20 (fun x10 hF => ?_)
    refine lv_iconst (v := 1) X.1 X.2.1 dX9_event_21 (by decide) ?_
    refine lv_isub X.1 X.2.1 dX9_event_22 ?_
    obtain ⟨x11, h12, e13, hF⟩ := bnd_out hF
    refine ab_callSi X S (c_X9_in l D cA sz e13) mi_X9_in lm_X9_343 lt_yX9_in (As := [.int p1, .int 0, .int (x10 - 1)]) (rest := []) rfl ⟨by decide, by decide⟩ ⟨(by decide), (by decide)⟩ hl.1 rfl (by simp [ab_cat, ab_cI, ab_cJ, ab_cD, ab_cF]) dX9_event_23 (fun H1 locs1 S => ?_)
    refine lv_if_eq (tgt := 48) X.1 X.2.1 dX9_event_26 (by decide) (fun c14 => ?_) (fun c14 => ?_)
    · have hF := ab_pos c14 hF
      exact w_X9_event_48 X hr  S (lv_sub hl [] rfl) hF
    · have hF := ab_neg c14 hF
      refine lv_iload_n X.1 X.2.1 dX9_event_29 rfl (lv_at hl 3 rfl) ?_
      refine lv_iconst (v := (-1)) X.1 X.2.1 dX9_event_30 (by decide) ?_
      refine lv_iconst (v := 1) X.1 X.2.1 dX9_event_31 (by decide) ?_
      obtain ⟨x15, h16, e17, hF⟩ := bnd_out hF
      refine ab_callSi X S (c_X9_in l D cA sz e17) mi_X9_in lm_X9_343 lt_yX9_in (As := [.int p2, .int (-1), .int 1]) (rest := []) rfl ⟨by decide, by decide⟩ ⟨(by decide), (by decide)⟩ hl.1 rfl (by simp [ab_cat, ab_cI, ab_cJ, ab_cD, ab_cF]) dX9_event_32 (fun H1 locs1 S => ?_)
      refine lv_if_eq (tgt := 48) X.1 X.2.1 dX9_event_35 (by decide) (fun c18 => ?_) (fun c18 => ?_)
      · have hF := ab_pos c18 hF
        exact w_X9_event_48 X hr  S (lv_sub hl [] rfl) hF
      · have hF := ab_neg c18 hF
        refine lv_iload X.1 X.2.1 dX9_event_38 (lv_at hl 4 rfl) ?_
        refine lv_iconst (v := 0) X.1 X.2.1 dX9_event_40 (by decide) ?_
        refine lv_iconst (v := 3) X.1 X.2.1 dX9_event_41 (by decide) ?_
        obtain ⟨x19, h20, e21, hF⟩ := bnd_out hF
        refine ab_callSi X S (c_X9_in l D cA sz e21) mi_X9_in lm_X9_343 lt_yX9_in (As := [.int p3, .int 0, .int 3]) (rest := []) rfl ⟨by decide, by decide⟩ ⟨(by decide), (by decide)⟩ hl.1 rfl (by simp [ab_cat, ab_cI, ab_cJ, ab_cD, ab_cF]) dX9_event_42 (fun H1 locs1 S => ?_)
        refine lv_if_ne (tgt := 50) X.1 X.2.1 dX9_event_45 (by decide) (fun c22 => ?_) (fun c22 => ?_)
        · have hF := ab_pos c22 hF
          refine ab_aload_n X dX9_event_50 rfl (lv_at hl 0 rfl) ?_
          refine ab_getR X S hF fi_9_17 lf_X9_58 dX9_event_51 (fun x23 hF => ?_)
          refine lv_iload_n X.1 X.2.1 dX9_event_54 rfl (lv_at hl 1 rfl) ?_
          refine ab_aldI X S hF dX9_event_55 (fun x24 hF => ?_)
          refine lv_iconst (v := 4) X.1 X.2.1 dX9_event_56 (by decide) ?_
          refine lv_icmp_ne (tgt := 63) X.1 X.2.1 dX9_event_57 (by decide) (fun c25 => ?_) (fun c25 => ?_)
          · have hF := ab_pos c25 hF
            refine lv_iconst (v := 4) X.1 X.2.1 dX9_event_63 (by decide) ?_
            refine lv_iload_n X.1 X.2.1 dX9_event_64 rfl (lv_at hl 1 rfl) ?_
            refine lv_imul X.1 X.2.1 dX9_event_65 ?_
            refine ab_aload_n X dX9_event_66 rfl (lv_at hl 0 rfl) ?_
            refine ab_getR X S hF fi_9_17 lf_X9_58 dX9_event_67 (fun x26 hF => ?_)
            refine lv_iload_n X.1 X.2.1 dX9_event_70 rfl (lv_at hl 1 rfl) ?_
            refine ab_aldI X S hF dX9_event_71 (fun x27 hF => ?_)
            refine lv_iadd X.1 X.2.1 dX9_event_72 ?_
            refine lv_istore (lv' := [(6, .int ((4 * p0) + x27)), (0, va_rf (some this)), (1, .int p0), (2, .int p1), (3, .int p2), (4, .int p3), (5, .int p4)]) X.1 X.2.1 dX9_event_73 hl (by decide) (by simp [ab_cat, ab_cI, ab_cJ, ab_cD, ab_cF]) (fun ls hl => ?_)
            refine ab_aload_n X dX9_event_75 rfl (lv_at hl 1 rfl) ?_
            refine ab_getR X S hF fi_9_31 lf_X9_101 dX9_event_76 (fun x28 hF => ?_)
            refine lv_iload X.1 X.2.1 dX9_event_79 (lv_at hl 0 rfl) ?_
            refine lv_iload_n X.1 X.2.1 dX9_event_81 rfl (lv_at hl 3 rfl) ?_
            refine ab_astI X S hF dX9_event_82 (fun h29 H1 locs1 hF S => ?_)
            refine ab_aload_n X dX9_event_83 rfl (lv_at hl 1 rfl) ?_
            refine ab_getR X S hF fi_9_32 lf_X9_104 dX9_event_84 (fun x30 hF => ?_)
            refine lv_iload X.1 X.2.1 dX9_event_87 (lv_at hl 0 rfl) ?_
            refine lv_iload_n X.1 X.2.1 dX9_event_89 rfl (lv_at hl 4 rfl) ?_
            refine ab_astI X S hF dX9_event_90 (fun h31 H1 locs1 hF S => ?_)
            refine ab_aload_n X dX9_event_91 rfl (lv_at hl 1 rfl) ?_
            refine ab_getR X S hF fi_9_33 lf_X9_107 dX9_event_92 (fun x32 hF => ?_)
            refine lv_iload X.1 X.2.1 dX9_event_95 (lv_at hl 0 rfl) ?_
            refine lv_iload X.1 X.2.1 dX9_event_97 (lv_at hl 5 rfl) ?_
            refine ab_astI X S hF dX9_event_99 (fun h33 H1 locs1 hF S => ?_)
            refine ab_aload_n X dX9_event_100 rfl (lv_at hl 1 rfl) ?_
            refine ab_getR X S hF fi_9_34 lf_X9_110 dX9_event_101 (fun x34 hF => ?_)
            refine lv_iload X.1 X.2.1 dX9_event_104 (lv_at hl 0 rfl) ?_
            refine lv_iload X.1 X.2.1 dX9_event_106 (lv_at hl 6 rfl) ?_
            refine ab_astI X S hF dX9_event_108 (fun h35 H1 locs1 hF S => ?_)
            refine ab_aload_n X dX9_event_109 rfl (lv_at hl 1 rfl) ?_
            refine ab_getR X S hF fi_9_17 lf_X9_58 dX9_event_110 (fun x36 hF => ?_)
            refine lv_iload_n X.1 X.2.1 dX9_event_113 rfl (lv_at hl 2 rfl) ?_
            refine lv_dup2_11 X.1 X.2.1 dX9_event_114 (by simp [ab_cat, ab_cI, ab_cJ, ab_cD, ab_cF]) (by simp [ab_cat, ab_cI, ab_cJ, ab_cD, ab_cF]) ?_
            refine ab_aldI X S hF dX9_event_115 (fun x37 hF => ?_)
            refine lv_iconst (v := 1) X.1 X.2.1 dX9_event_116 (by decide) ?_
            refine lv_iadd X.1 X.2.1 dX9_event_117 ?_
            refine ab_astI X S hF dX9_event_118 (fun h38 H1 locs1 hF S => ?_)
            refine ab_aload_n X dX9_event_119 rfl (lv_at hl 1 rfl) ?_
            refine ab_getR X S hF fi_9_17 lf_X9_58 dX9_event_120 (fun x39 hF => ?_)
            refine lv_iload_n X.1 X.2.1 dX9_event_123 rfl (lv_at hl 2 rfl) ?_
            refine ab_aldI X S hF dX9_event_124 (fun x40 hF => ?_)
            refine lv_iconst (v := 1) X.1 X.2.1 dX9_event_125 (by decide) ?_
            refine lv_isub X.1 X.2.1 dX9_event_126 ?_
            exact ab_iret X S hr hF dX9_event_127
          · have hF := ab_neg (fun q => q c25) hF
            refine lv_bipush (v := (-3)) X.1 X.2.1 dX9_event_60 (by decide) ?_
            exact ab_iret X S hr hF dX9_event_62
        · have hF := ab_neg (fun q => q c22) hF
          exact w_X9_event_48 X hr  S (lv_sub hl [] rfl) hF
def f_X9_count_105  (u0 : Int32) (h : Hp) : Option (Int32 × Hp) :=
  some (u0, h)
set_option maxHeartbeats 4000000 in
set_option maxRecDepth 100000 in
theorem w_X9_count_105 {p : Program} {l : Launch} {e : Env} {s : State} {m : MethodId} {args : Array Value} {below : List Frame} {meth : Method} {c : Code} {D : va_G} {cA : Nat → ClassId} {sz : Nat} {rr : Int32} {hh : Hp}  (X : ab_X p s m args meth c cX9_count 3 RX9 D cA sz) (hr : meth.sig.returnType = (some .int))  {H : Heap} {locs : List Loc} {ls : Array Slot} {u0 : Int32} {h : Hp} (S : ab_H D cA sz h s H locs) (hl : lv_has ls 3 []) (hF : f_X9_count_105 u0 h = some (rr, hh)) : W p l e (ab_rm 2 0 0) s m args below meth c H locs 0 0 (MQ below (ab_Q D cA sz (some (.int rr)) hh) args s 0 0 (fun q => sz ≤ q)) (F0 m 105 ls [.int u0]) := by
  unfold f_X9_count_105 at hF
  exact ab_iret X S hr hF dX9_count_105
def f_X9_count (this : Nat) (p0 : Int32) (p1 : Int32) (h : Hp) : Option (Int32 × Hp) :=
  (ab_ck h (some this) (9, 0)).bind fun a4 =>
  bnd (f_X9_isRun a4 p0 h) fun x1 h2 =>
  if ¬ x1 = 0 then
    if p1.toInt < 0 ∨ 7 < p1.toInt then
      some ((-1), h2)
    else if p1 = 0 then
      (getR h2 (some this) 9 15).bind fun x9 =>
      (aldI h2 x9 11 p0).bind fun x10 =>
      some (x10, h2)
    else if p1 = 1 then
      (getR h2 (some this) 9 16).bind fun x12 =>
      (aldI h2 x12 11 p0).bind fun x13 =>
      some (x13, h2)
    else if p1 = 2 then
      (getR h2 (some this) 9 18).bind fun x15 =>
      (aldI h2 x15 11 p0).bind fun x16 =>
      some (x16, h2)
    else if p1 = 3 then
      (getR h2 (some this) 9 19).bind fun x18 =>
      (aldI h2 x18 11 p0).bind fun x19 =>
      some (x19, h2)
    else if p1 = 4 then
      (getR h2 (some this) 9 20).bind fun x21 =>
      (aldI h2 x21 11 p0).bind fun x22 =>
      some (x22, h2)
    else if p1 = 5 then
      (getR h2 (some this) 9 22).bind fun x24 =>
      (aldI h2 x24 12 p0).bind fun x25 =>
      if x25 = 0 then
        f_X9_count_105 0 h2
      else
        f_X9_count_105 1 h2
    else if p1 = 6 then
      (getR h2 (some this) 9 17).bind fun x28 =>
      (aldI h2 x28 11 p0).bind fun x29 =>
      some (x29, h2)
    else if p1 = 7 then
      (getR h2 (some this) 9 21).bind fun x31 =>
      (aldI h2 x31 11 p0).bind fun x32 =>
      some (x32, h2)
    else none
  else
    some ((-1), h2)
theorem mi_X9_count : ab_MI yX9_count cX9_count 3 (some .int) 2 := ⟨lc_yX9_count, lz_RX9, by decide, by decide, by decide +kernel⟩
set_option maxHeartbeats 4000000 in
set_option maxRecDepth 100000 in
theorem c_X9_count (l : Launch) (D : va_G) (cA : Nat → ClassId) (sz : Nat) {this : Nat} {p0 : Int32} {p1 : Int32} {h hh : Hp} {rr : Int32} (hF : f_X9_count this p0 p1 h = some (rr, hh)) : ab_C l D cA sz yX9_count cX9_count 3 (some .int) 2 0 0 [.ref this, .int p0, .int p1] h (some (.int rr)) hh := by
  refine Met.ofW (cc := cX9_count) (maxL := 3) (ret := (some .int)) (by decide) rfl ?_
  intro p e s m args below meth c s₁ B hml hv
  obtain ⟨rfl, hT, hR⟩ := hv
  have X : ab_X p s m _ meth c cX9_count 3 RX9 D cA sz := (ab_enter B hml hT hR).1
  have S := (ab_enter B hml hT hR).2
  have hr := B.returns
  obtain ⟨ls, hls, hl⟩ := ab_entry m [.ref this, .int p0, .int p1] 3 (lv := [(0, .ref this), (1, .int p0), (2, .int p1)]) (by simp [lg_sl, ab_cat, ab_cI, ab_cJ, ab_cD, ab_cF, ab_cA]) (by simp [lv_args, ab_cat, ab_cI, ab_cJ, ab_cD, ab_cF, ab_cA])
  rw [hls]
  have hl : lv_has ls 3 [(0, va_rf (some this)), (1, .int p0), (2, .int p1)] := hl
  unfold f_X9_count at hF
  show W p l e (ab_rm 2 0 0) s m _ below meth c s.heap [] 0 0 _ _
  refine ab_aload_n X dX9_count_0 rfl (lv_at hl 0 rfl) ?_
  refine lv_iload_n X.1 X.2.1 dX9_count_1 rfl (lv_at hl 1 rfl) ?_
  obtain ⟨a4, e5, hF⟩ := bind_out hF
  obtain ⟨x1, h2, e3, hF⟩ := bnd_out hF
  refine ab_callVi X S e5 (c_X9_isRun l D cA sz e3) rfl (by decide) mi_X9_isRun lm_X9_366 li_yX9_isRun ls_yX9_isRun (As := [.int p0]) (rest := []) rfl ⟨by decide, by decide⟩ ⟨(by decide), (by decide)⟩ hl.1 rfl (by simp [ab_cat, ab_cI, ab_cJ, ab_cD, ab_cF]) dX9_count_2 (fun H1 locs1 S => ?_)
  refine lv_if_ne (tgt := 10) X.1 X.2.1 dX9_count_5 (by decide) (fun c6 => ?_) (fun c6 => ?_)
  · have hF := ab_pos c6 hF
    refine lv_iload_n X.1 X.2.1 dX9_count_10 rfl (lv_at hl 2 rfl) ?_
    by_cases c7 : p1.toInt < 0 ∨ 7 < p1.toInt
    · have hF := ab_pos c7 hF
      refine lv_tableOut (tgt := 120) X.1 X.2.1 dX9_count_11 c7 (by decide) ?_
      refine lv_iconst (v := (-1)) X.1 X.2.1 dX9_count_120 (by decide) ?_
      exact ab_iret X S hr hF dX9_count_121
    have hF := ab_neg c7 hF
    by_cases c8 : p1 = 0
    · have hF := ab_pos c8 hF
      refine ab_tab (tgt := 56) X dX9_count_11 c8 (by decide) (by decide) rfl (by decide) ?_
      refine ab_aload_n X dX9_count_56 rfl (lv_at hl 0 rfl) ?_
      refine ab_getR X S hF fi_9_15 lf_X9_52 dX9_count_57 (fun x9 hF => ?_)
      refine lv_iload_n X.1 X.2.1 dX9_count_60 rfl (lv_at hl 1 rfl) ?_
      refine ab_aldI X S hF dX9_count_61 (fun x10 hF => ?_)
      exact ab_iret X S hr hF dX9_count_62
    have hF := ab_neg c8 hF
    by_cases c11 : p1 = 1
    · have hF := ab_pos c11 hF
      refine ab_tab (tgt := 63) X dX9_count_11 c11 (by decide) (by decide) rfl (by decide) ?_
      refine ab_aload_n X dX9_count_63 rfl (lv_at hl 0 rfl) ?_
      refine ab_getR X S hF fi_9_16 lf_X9_55 dX9_count_64 (fun x12 hF => ?_)
      refine lv_iload_n X.1 X.2.1 dX9_count_67 rfl (lv_at hl 1 rfl) ?_
      refine ab_aldI X S hF dX9_count_68 (fun x13 hF => ?_)
      exact ab_iret X S hr hF dX9_count_69
    have hF := ab_neg c11 hF
    by_cases c14 : p1 = 2
    · have hF := ab_pos c14 hF
      refine ab_tab (tgt := 70) X dX9_count_11 c14 (by decide) (by decide) rfl (by decide) ?_
      refine ab_aload_n X dX9_count_70 rfl (lv_at hl 0 rfl) ?_
      refine ab_getR X S hF fi_9_18 lf_X9_61 dX9_count_71 (fun x15 hF => ?_)
      refine lv_iload_n X.1 X.2.1 dX9_count_74 rfl (lv_at hl 1 rfl) ?_
      refine ab_aldI X S hF dX9_count_75 (fun x16 hF => ?_)
      exact ab_iret X S hr hF dX9_count_76
    have hF := ab_neg c14 hF
    by_cases c17 : p1 = 3
    · have hF := ab_pos c17 hF
      refine ab_tab (tgt := 77) X dX9_count_11 c17 (by decide) (by decide) rfl (by decide) ?_
      refine ab_aload_n X dX9_count_77 rfl (lv_at hl 0 rfl) ?_
      refine ab_getR X S hF fi_9_19 lf_X9_64 dX9_count_78 (fun x18 hF => ?_)
      refine lv_iload_n X.1 X.2.1 dX9_count_81 rfl (lv_at hl 1 rfl) ?_
      refine ab_aldI X S hF dX9_count_82 (fun x19 hF => ?_)
      exact ab_iret X S hr hF dX9_count_83
    have hF := ab_neg c17 hF
    by_cases c20 : p1 = 4
    · have hF := ab_pos c20 hF
      refine ab_tab (tgt := 84) X dX9_count_11 c20 (by decide) (by decide) rfl (by decide) ?_
      refine ab_aload_n X dX9_count_84 rfl (lv_at hl 0 rfl) ?_
      refine ab_getR X S hF fi_9_20 lf_X9_67 dX9_count_85 (fun x21 hF => ?_)
      refine lv_iload_n X.1 X.2.1 dX9_count_88 rfl (lv_at hl 1 rfl) ?_
      refine ab_aldI X S hF dX9_count_89 (fun x22 hF => ?_)
      exact ab_iret X S hr hF dX9_count_90
    have hF := ab_neg c20 hF
    by_cases c23 : p1 = 5
    · have hF := ab_pos c23 hF
      refine ab_tab (tgt := 91) X dX9_count_11 c23 (by decide) (by decide) rfl (by decide) ?_
      refine ab_aload_n X dX9_count_91 rfl (lv_at hl 0 rfl) ?_
      refine ab_getR X S hF fi_9_22 lf_X9_73 dX9_count_92 (fun x24 hF => ?_)
      refine lv_iload_n X.1 X.2.1 dX9_count_95 rfl (lv_at hl 1 rfl) ?_
      refine ab_aldZ X S hF dX9_count_96 (fun x25 hF => ?_)
      refine lv_if_eq (tgt := 104) X.1 X.2.1 dX9_count_97 (by decide) (fun c26 => ?_) (fun c26 => ?_)
      · have hF := ab_pos c26 hF
        refine lv_iconst (v := 0) X.1 X.2.1 dX9_count_104 (by decide) ?_
        exact w_X9_count_105 X hr  S (lv_sub hl [] rfl) hF
      · have hF := ab_neg c26 hF
        refine lv_iconst (v := 1) X.1 X.2.1 dX9_count_100 (by decide) ?_
        refine lv_goto (tgt := 105) X.1 X.2.1 dX9_count_101 (by decide) ?_
        exact w_X9_count_105 X hr  S (lv_sub hl [] rfl) hF
    have hF := ab_neg c23 hF
    by_cases c27 : p1 = 6
    · have hF := ab_pos c27 hF
      refine ab_tab (tgt := 106) X dX9_count_11 c27 (by decide) (by decide) rfl (by decide) ?_
      refine ab_aload_n X dX9_count_106 rfl (lv_at hl 0 rfl) ?_
      refine ab_getR X S hF fi_9_17 lf_X9_58 dX9_count_107 (fun x28 hF => ?_)
      refine lv_iload_n X.1 X.2.1 dX9_count_110 rfl (lv_at hl 1 rfl) ?_
      refine ab_aldI X S hF dX9_count_111 (fun x29 hF => ?_)
      exact ab_iret X S hr hF dX9_count_112
    have hF := ab_neg c27 hF
    by_cases c30 : p1 = 7
    · have hF := ab_pos c30 hF
      refine ab_tab (tgt := 113) X dX9_count_11 c30 (by decide) (by decide) rfl (by decide) ?_
      refine ab_aload_n X dX9_count_113 rfl (lv_at hl 0 rfl) ?_
      refine ab_getR X S hF fi_9_21 lf_X9_70 dX9_count_114 (fun x31 hF => ?_)
      refine lv_iload_n X.1 X.2.1 dX9_count_117 rfl (lv_at hl 1 rfl) ?_
      refine ab_aldI X S hF dX9_count_118 (fun x32 hF => ?_)
      exact ab_iret X S hr hF dX9_count_119
    have hF := ab_neg c30 hF
    cases hF
  · have hF := ab_neg (fun q => q c6) hF
    refine lv_iconst (v := (-1)) X.1 X.2.1 dX9_count_8 (by decide) ?_
    exact ab_iret X S hr hF dX9_count_9
def f_X9_copiesVariable_62  : Nat → Option Nat → Int32 → Int32 → Int32 → Hp → Option (Unit × Hp)
  | 0, _, _, _, _, _ => none
  | n + 1, v0, v1, v2, v3, h => if 5 ≤ v3 then
      some ((), h)
    else
      (getR h v0 9 44).bind fun x2 =>
      (getR h v0 9 44).bind fun x3 =>
      (aldD h x3 ((5 * v1) + v3)).bind fun x4 =>
      (astD h x2 ((5 * v2) + v3) x4).bind fun h5 =>
      f_X9_copiesVariable_62 n v0 v1 v2 (v3 + 1) h5
set_option maxHeartbeats 4000000 in
set_option maxRecDepth 100000 in
theorem w_X9_copiesVariable_62 {p : Program} {l : Launch} {e : Env} {s : State} {m : MethodId} {args : Array Value} {below : List Frame} {meth : Method} {c : Code} {D : va_G} {cA : Nat → ClassId} {sz : Nat}  {hh : Hp}  (X : ab_X p s m args meth c cX9_copiesVariable 4 RX9 D cA sz) (hr : meth.sig.returnType = none)  (n : Nat) : ∀ (v0 : Option Nat) (v1 : Int32) (v2 : Int32) (v3 : Int32) (h : Hp) (H : Heap) (locs : List Loc) (ls : Array Slot), ab_H D cA sz h s H locs → lv_has ls 4 [(0, va_rf v0), (1, .int v1), (2, .int v2), (3, .int v3)] → f_X9_copiesVariable_62 n v0 v1 v2 v3 h = some ((), hh) → W p l e (ab_rm 0 0 0) s m args below meth c H locs 0 0 (MQ below (ab_Q D cA sz none hh) args s 0 0 (fun q => sz ≤ q)) (F0 m 62 ls []) := by
  induction n with
  | zero => intro v0 v1 v2 v3 h H locs ls S hl hF; cases hF
  | succ n ih =>
    intro v0 v1 v2 v3 h H locs ls S hl hF
    rw [f_X9_copiesVariable_62] at hF
    refine lv_iload_n X.1 X.2.1 dX9_copiesVariable_62 rfl (lv_at hl 3 rfl) ?_
    refine lv_iconst (v := 5) X.1 X.2.1 dX9_copiesVariable_63 (by decide) ?_
    refine lv_icmp_ge (tgt := 93) X.1 X.2.1 dX9_copiesVariable_64 (by decide) (fun c1 => ?_) (fun c1 => ?_)
    · have hF := ab_pos c1 hF
      exact ab_vret X S hr hF dX9_copiesVariable_93
    · have hF := ab_neg c1 hF
      refine ab_aload_n X dX9_copiesVariable_67 rfl (lv_at hl 0 rfl) ?_
      refine ab_getR X S hF fi_9_44 lf_X9_140 dX9_copiesVariable_68 (fun x2 hF => ?_)
      refine lv_iconst (v := 5) X.1 X.2.1 dX9_copiesVariable_71 (by decide) ?_
      refine lv_iload_n X.1 X.2.1 dX9_copiesVariable_72 rfl (lv_at hl 2 rfl) ?_
      refine lv_imul X.1 X.2.1 dX9_copiesVariable_73 ?_
      refine lv_iload_n X.1 X.2.1 dX9_copiesVariable_74 rfl (lv_at hl 3 rfl) ?_
      refine lv_iadd X.1 X.2.1 dX9_copiesVariable_75 ?_
      refine ab_aload_n X dX9_copiesVariable_76 rfl (lv_at hl 0 rfl) ?_
      refine ab_getR X S hF fi_9_44 lf_X9_140 dX9_copiesVariable_77 (fun x3 hF => ?_)
      refine lv_iconst (v := 5) X.1 X.2.1 dX9_copiesVariable_80 (by decide) ?_
      refine lv_iload_n X.1 X.2.1 dX9_copiesVariable_81 rfl (lv_at hl 1 rfl) ?_
      refine lv_imul X.1 X.2.1 dX9_copiesVariable_82 ?_
      refine lv_iload_n X.1 X.2.1 dX9_copiesVariable_83 rfl (lv_at hl 3 rfl) ?_
      refine lv_iadd X.1 X.2.1 dX9_copiesVariable_84 ?_
      refine ab_aldD X S hF dX9_copiesVariable_85 (fun x4 hF => ?_)
      refine ab_astD X S hF dX9_copiesVariable_86 (fun h5 H1 locs1 hF S => ?_)
      refine lv_iinc (v := v3 + 1) (lv' := [(3, .int (v3 + 1)), (0, va_rf v0), (1, .int v1), (2, .int v2)]) X.1 X.2.1 dX9_copiesVariable_87 hl (k := 3) rfl (by rfl) (by decide) (by simp [ab_cat, ab_cI, ab_cJ, ab_cD, ab_cF]) (fun ls hl => ?_)
      refine lv_goto (tgt := 62) X.1 X.2.1 dX9_copiesVariable_90 (by decide) ?_
      exact ih _ _ _ _ _ _ _ _ S (lv_sub hl [1, 2, 3, 0] rfl) hF
def f_X9_copiesVariable (this : Nat) (p0 : Int32) (p1 : Int32) (h : Hp) : Option (Unit × Hp) :=
  (getR h (some this) 9 30).bind fun x1 =>
  (getR h (some this) 9 30).bind fun x2 =>
  (aldD h x2 p0).bind fun x3 =>
  (astD h x1 p1 x3).bind fun h4 =>
  (getR h4 (some this) 9 40).bind fun x5 =>
  (getR h4 (some this) 9 40).bind fun x6 =>
  (aldD h4 x6 p0).bind fun x7 =>
  (astD h4 x5 p1 x7).bind fun h8 =>
  (getR h8 (some this) 9 41).bind fun x9 =>
  (getR h8 (some this) 9 41).bind fun x10 =>
  (aldD h8 x10 p0).bind fun x11 =>
  (astD h8 x9 p1 x11).bind fun h12 =>
  (getR h12 (some this) 9 42).bind fun x13 =>
  (getR h12 (some this) 9 42).bind fun x14 =>
  (aldD h12 x14 p0).bind fun x15 =>
  (astD h12 x13 p1 x15).bind fun h16 =>
  (getR h16 (some this) 9 43).bind fun x17 =>
  (getR h16 (some this) 9 43).bind fun x18 =>
  (aldD h16 x18 p0).bind fun x19 =>
  (astD h16 x17 p1 x19).bind fun h20 =>
  f_X9_copiesVariable_62 fuelN (some this) p0 p1 0 h20
theorem mi_X9_copiesVariable : ab_MI yX9_copiesVariable cX9_copiesVariable 4 none 2 := ⟨lc_yX9_copiesVariable, lz_RX9, by decide, by decide, by decide +kernel⟩
set_option maxHeartbeats 4000000 in
set_option maxRecDepth 100000 in
theorem c_X9_copiesVariable (l : Launch) (D : va_G) (cA : Nat → ClassId) (sz : Nat) {this : Nat} {p0 : Int32} {p1 : Int32} {h hh : Hp}  (hF : f_X9_copiesVariable this p0 p1 h = some ((), hh)) : ab_C l D cA sz yX9_copiesVariable cX9_copiesVariable 4 none 0 0 0 [.ref this, .int p0, .int p1] h none hh := by
  refine Met.ofW (cc := cX9_copiesVariable) (maxL := 4) (ret := none) (by decide) rfl ?_
  intro p e s m args below meth c s₁ B hml hv
  obtain ⟨rfl, hT, hR⟩ := hv
  have X : ab_X p s m _ meth c cX9_copiesVariable 4 RX9 D cA sz := (ab_enter B hml hT hR).1
  have S := (ab_enter B hml hT hR).2
  have hr := B.returns
  obtain ⟨ls, hls, hl⟩ := ab_entry m [.ref this, .int p0, .int p1] 4 (lv := [(0, .ref this), (1, .int p0), (2, .int p1)]) (by simp [lg_sl, ab_cat, ab_cI, ab_cJ, ab_cD, ab_cF, ab_cA]) (by simp [lv_args, ab_cat, ab_cI, ab_cJ, ab_cD, ab_cF, ab_cA])
  rw [hls]
  have hl : lv_has ls 4 [(0, va_rf (some this)), (1, .int p0), (2, .int p1)] := hl
  unfold f_X9_copiesVariable at hF
  show W p l e (ab_rm 0 0 0) s m _ below meth c s.heap [] 0 0 _ _
  refine ab_aload_n X dX9_copiesVariable_0 rfl (lv_at hl 0 rfl) ?_
  refine ab_getR X S hF fi_9_30 lf_X9_98 dX9_copiesVariable_1 (fun x1 hF => ?_)
  refine lv_iload_n X.1 X.2.1 dX9_copiesVariable_4 rfl (lv_at hl 2 rfl) ?_
  refine ab_aload_n X dX9_copiesVariable_5 rfl (lv_at hl 0 rfl) ?_
  refine ab_getR X S hF fi_9_30 lf_X9_98 dX9_copiesVariable_6 (fun x2 hF => ?_)
  refine lv_iload_n X.1 X.2.1 dX9_copiesVariable_9 rfl (lv_at hl 1 rfl) ?_
  refine ab_aldD X S hF dX9_copiesVariable_10 (fun x3 hF => ?_)
  refine ab_astD X S hF dX9_copiesVariable_11 (fun h4 H1 locs1 hF S => ?_)
  refine ab_aload_n X dX9_copiesVariable_12 rfl (lv_at hl 0 rfl) ?_
  refine ab_getR X S hF fi_9_40 lf_X9_128 dX9_copiesVariable_13 (fun x5 hF => ?_)
  refine lv_iload_n X.1 X.2.1 dX9_copiesVariable_16 rfl (lv_at hl 2 rfl) ?_
  refine ab_aload_n X dX9_copiesVariable_17 rfl (lv_at hl 0 rfl) ?_
  refine ab_getR X S hF fi_9_40 lf_X9_128 dX9_copiesVariable_18 (fun x6 hF => ?_)
  refine lv_iload_n X.1 X.2.1 dX9_copiesVariable_21 rfl (lv_at hl 1 rfl) ?_
  refine ab_aldD X S hF dX9_copiesVariable_22 (fun x7 hF => ?_)
  refine ab_astD X S hF dX9_copiesVariable_23 (fun h8 H1 locs1 hF S => ?_)
  refine ab_aload_n X dX9_copiesVariable_24 rfl (lv_at hl 0 rfl) ?_
  refine ab_getR X S hF fi_9_41 lf_X9_131 dX9_copiesVariable_25 (fun x9 hF => ?_)
  refine lv_iload_n X.1 X.2.1 dX9_copiesVariable_28 rfl (lv_at hl 2 rfl) ?_
  refine ab_aload_n X dX9_copiesVariable_29 rfl (lv_at hl 0 rfl) ?_
  refine ab_getR X S hF fi_9_41 lf_X9_131 dX9_copiesVariable_30 (fun x10 hF => ?_)
  refine lv_iload_n X.1 X.2.1 dX9_copiesVariable_33 rfl (lv_at hl 1 rfl) ?_
  refine ab_aldD X S hF dX9_copiesVariable_34 (fun x11 hF => ?_)
  refine ab_astD X S hF dX9_copiesVariable_35 (fun h12 H1 locs1 hF S => ?_)
  refine ab_aload_n X dX9_copiesVariable_36 rfl (lv_at hl 0 rfl) ?_
  refine ab_getR X S hF fi_9_42 lf_X9_134 dX9_copiesVariable_37 (fun x13 hF => ?_)
  refine lv_iload_n X.1 X.2.1 dX9_copiesVariable_40 rfl (lv_at hl 2 rfl) ?_
  refine ab_aload_n X dX9_copiesVariable_41 rfl (lv_at hl 0 rfl) ?_
  refine ab_getR X S hF fi_9_42 lf_X9_134 dX9_copiesVariable_42 (fun x14 hF => ?_)
  refine lv_iload_n X.1 X.2.1 dX9_copiesVariable_45 rfl (lv_at hl 1 rfl) ?_
  refine ab_aldD X S hF dX9_copiesVariable_46 (fun x15 hF => ?_)
  refine ab_astD X S hF dX9_copiesVariable_47 (fun h16 H1 locs1 hF S => ?_)
  refine ab_aload_n X dX9_copiesVariable_48 rfl (lv_at hl 0 rfl) ?_
  refine ab_getR X S hF fi_9_43 lf_X9_137 dX9_copiesVariable_49 (fun x17 hF => ?_)
  refine lv_iload_n X.1 X.2.1 dX9_copiesVariable_52 rfl (lv_at hl 2 rfl) ?_
  refine ab_aload_n X dX9_copiesVariable_53 rfl (lv_at hl 0 rfl) ?_
  refine ab_getR X S hF fi_9_43 lf_X9_137 dX9_copiesVariable_54 (fun x18 hF => ?_)
  refine lv_iload_n X.1 X.2.1 dX9_copiesVariable_57 rfl (lv_at hl 1 rfl) ?_
  refine ab_aldD X S hF dX9_copiesVariable_58 (fun x19 hF => ?_)
  refine ab_astD X S hF dX9_copiesVariable_59 (fun h20 H1 locs1 hF S => ?_)
  refine lv_iconst (v := 0) X.1 X.2.1 dX9_copiesVariable_60 (by decide) ?_
  refine lv_istore_n (i := 3) (lv' := [(3, .int 0), (0, va_rf (some this)), (1, .int p0), (2, .int p1)]) X.1 X.2.1 dX9_copiesVariable_61 rfl hl (by decide) (by simp [ab_cat, ab_cI, ab_cJ, ab_cD, ab_cF]) (fun ls hl => ?_)
  exact w_X9_copiesVariable_62 X hr  fuelN _ _ _ _ _ _ _ _ S (lv_sub hl [1, 2, 3, 0] rfl) hF
def f_Jxe99ae_isNaN_b9ae7_11  (u0 : Int32) (h : Hp) : Option (Int32 × Hp) :=
  if u0 = 0 ∨ u0 = 1 then some (u0, h) else none
set_option maxHeartbeats 4000000 in
set_option maxRecDepth 100000 in
theorem w_Jxe99ae_isNaN_b9ae7_11 {p : Program} {l : Launch} {e : Env} {s : State} {m : MethodId} {args : Array Value} {below : List Frame} {meth : Method} {c : Code} {D : va_G} {cA : Nat → ClassId} {sz : Nat} {rr : Int32} {hh : Hp}  (X : ab_X p s m args meth c cJxe99ae_isNaN_b9ae7 2 RJxe99ae D cA sz) (hr : meth.sig.returnType = (some .boolean))  {H : Heap} {locs : List Loc} {ls : Array Slot} {u0 : Int32} {h : Hp} (S : ab_H D cA sz h s H locs) (hl : lv_has ls 2 []) (hF : f_Jxe99ae_isNaN_b9ae7_11 u0 h = some (rr, hh)) : W p l e (ab_rm 0 0 0) s m args below meth c H locs 0 0 (MQ below (ab_Q D cA sz (some (.int rr)) hh) args s 0 0 (fun q => sz ≤ q)) (F0 m 11 ls [.int u0]) := by
  unfold f_Jxe99ae_isNaN_b9ae7_11 at hF
  exact ab_zret X S hr hF dJxe99ae_isNaN_b9ae7_11
def f_Jxe99ae_isNaN_b9ae7 (p0 : UInt64) (h : Hp) : Option (Int32 × Hp) :=
  if (Op.cmpValue (FP.dcmp p0 p0) CmpOp.l) = 0 then
    f_Jxe99ae_isNaN_b9ae7_11 0 h
  else
    f_Jxe99ae_isNaN_b9ae7_11 1 h
theorem mi_Jxe99ae_isNaN_b9ae7 : ab_MI yJxe99ae_isNaN_b9ae7 cJxe99ae_isNaN_b9ae7 2 (some .boolean) 1 := ⟨lc_yJxe99ae_isNaN_b9ae7, lz_RJxe99ae, by decide, by decide, by decide +kernel⟩
set_option maxHeartbeats 4000000 in
set_option maxRecDepth 100000 in
theorem c_Jxe99ae_isNaN_b9ae7 (l : Launch) (D : va_G) (cA : Nat → ClassId) (sz : Nat) {p0 : UInt64} {h hh : Hp} {rr : Int32} (hF : f_Jxe99ae_isNaN_b9ae7 p0 h = some (rr, hh)) : ab_C l D cA sz yJxe99ae_isNaN_b9ae7 cJxe99ae_isNaN_b9ae7 2 (some .boolean) 0 0 0 [.double p0] h (some (.int rr)) hh := by
  refine Met.ofW (cc := cJxe99ae_isNaN_b9ae7) (maxL := 2) (ret := (some .boolean)) (by decide) rfl ?_
  intro p e s m args below meth c s₁ B hml hv
  obtain ⟨rfl, hT, hR⟩ := hv
  have X : ab_X p s m _ meth c cJxe99ae_isNaN_b9ae7 2 RJxe99ae D cA sz := (ab_enter B hml hT hR).1
  have S := (ab_enter B hml hT hR).2
  have hr := B.returns
  obtain ⟨ls, hls, hl⟩ := ab_entry m [.double p0] 2 (lv := [(0, .double p0)]) (by simp [lg_sl, ab_cat, ab_cI, ab_cJ, ab_cD, ab_cF, ab_cA]) (by simp [lv_args, ab_cat, ab_cI, ab_cJ, ab_cD, ab_cF, ab_cA])
  rw [hls]
  have hl : lv_has ls 2 [(0, .double p0)] := hl
  unfold f_Jxe99ae_isNaN_b9ae7 at hF
  show W p l e (ab_rm 0 0 0) s m _ below meth c s.heap [] 0 0 _ _
  refine lv_dload_n X.1 X.2.1 dJxe99ae_isNaN_b9ae7_0 rfl (lv_at hl 0 rfl) ?_
  refine lv_dload_n X.1 X.2.1 dJxe99ae_isNaN_b9ae7_1 rfl (lv_at hl 0 rfl) ?_
  refine lv_dcmp X.1 X.2.1 dJxe99ae_isNaN_b9ae7_2 ?_
  refine lv_if_eq (tgt := 10) X.1 X.2.1 dJxe99ae_isNaN_b9ae7_3 (by decide) (fun c1 => ?_) (fun c1 => ?_)
  · have hF := ab_pos c1 hF
    refine lv_iconst (v := 0) X.1 X.2.1 dJxe99ae_isNaN_b9ae7_10 (by decide) ?_
    exact w_Jxe99ae_isNaN_b9ae7_11 X hr  S (lv_sub hl [] rfl) hF
  · have hF := ab_neg c1 hF
    refine lv_iconst (v := 1) X.1 X.2.1 dJxe99ae_isNaN_b9ae7_6 (by decide) ?_
    refine lv_goto (tgt := 11) X.1 X.2.1 dJxe99ae_isNaN_b9ae7_7 (by decide) ?_
    exact w_Jxe99ae_isNaN_b9ae7_11 X hr  S (lv_sub hl [] rfl) hF
def f_Jxe99ae_doubleToLongBits_ccdee (p0 : UInt64) (h : Hp) : Option (Int64 × Hp) :=
  bnd (f_Jxe99ae_isNaN_b9ae7 p0 h) fun x1 h2 =>
  if ¬ x1 = 0 then
    some ((9221120237041090560), h2)
  else
    some (p0.toInt64, h2)
theorem mi_Jxe99ae_doubleToLongBits_ccdee : ab_MI yJxe99ae_doubleToLongBits_ccdee cJxe99ae_doubleToLongBits_ccdee 2 (some .long) 1 := ⟨lc_yJxe99ae_doubleToLongBits_ccdee, lz_RJxe99ae, by decide, by decide, by decide +kernel⟩
set_option maxHeartbeats 4000000 in
set_option maxRecDepth 100000 in
theorem c_Jxe99ae_doubleToLongBits_ccdee (l : Launch) (D : va_G) (cA : Nat → ClassId) (sz : Nat) {p0 : UInt64} {h hh : Hp} {rr : Int64} (hF : f_Jxe99ae_doubleToLongBits_ccdee p0 h = some (rr, hh)) : ab_C l D cA sz yJxe99ae_doubleToLongBits_ccdee cJxe99ae_doubleToLongBits_ccdee 2 (some .long) 1 0 0 [.double p0] h (some (.long rr)) hh := by
  refine Met.ofW (cc := cJxe99ae_doubleToLongBits_ccdee) (maxL := 2) (ret := (some .long)) (by decide) rfl ?_
  intro p e s m args below meth c s₁ B hml hv
  obtain ⟨rfl, hT, hR⟩ := hv
  have X : ab_X p s m _ meth c cJxe99ae_doubleToLongBits_ccdee 2 RJxe99ae D cA sz := (ab_enter B hml hT hR).1
  have S := (ab_enter B hml hT hR).2
  have hr := B.returns
  obtain ⟨ls, hls, hl⟩ := ab_entry m [.double p0] 2 (lv := [(0, .double p0)]) (by simp [lg_sl, ab_cat, ab_cI, ab_cJ, ab_cD, ab_cF, ab_cA]) (by simp [lv_args, ab_cat, ab_cI, ab_cJ, ab_cD, ab_cF, ab_cA])
  rw [hls]
  have hl : lv_has ls 2 [(0, .double p0)] := hl
  unfold f_Jxe99ae_doubleToLongBits_ccdee at hF
  show W p l e (ab_rm 1 0 0) s m _ below meth c s.heap [] 0 0 _ _
  refine lv_dload_n X.1 X.2.1 dJxe99ae_doubleToLongBits_ccdee_0 rfl (lv_at hl 0 rfl) ?_
  obtain ⟨x1, h2, e3, hF⟩ := bnd_out hF
  refine ab_callSi X S (c_Jxe99ae_isNaN_b9ae7 l D cA sz e3) mi_Jxe99ae_isNaN_b9ae7 lm_Jxe99ae_122 lt_yJxe99ae_isNaN_b9ae7 (As := [.double p0]) (rest := []) rfl ⟨by decide, by decide⟩ ⟨(by decide), (by decide)⟩ hl.1 rfl (by simp [ab_cat, ab_cI, ab_cJ, ab_cD, ab_cF]) dJxe99ae_doubleToLongBits_ccdee_1 (fun H1 locs1 S => ?_)
  refine lv_if_ne (tgt := 12) X.1 X.2.1 dJxe99ae_doubleToLongBits_ccdee_4 (by decide) (fun c4 => ?_) (fun c4 => ?_)
  · have hF := ab_pos c4 hF
    refine lv_ldc2 (v := (9221120237041090560)) X.1 X.2.1 X.2.2.2.1 (X.2.2.2.2.1 _ ll_Jxe99ae_137) dJxe99ae_doubleToLongBits_ccdee_12 ?_
    exact ab_lret X S hr hF dJxe99ae_doubleToLongBits_ccdee_15
  · have hF := ab_neg (fun q => q c4) hF
    refine lv_dload_n X.1 X.2.1 dJxe99ae_doubleToLongBits_ccdee_7 rfl (lv_at hl 0 rfl) ?_
    refine vn_d2l X.1 X.2.1 (X.2.2.1.trans hl.1.symm) X.2.2.2.1 (X.2.2.2.2.1 _ lm_Jxe99ae_134) (X.2.2.2.2.1 _ lv_n_java_lang_Double_doubleToRawLongBits_D_J) (X.2.2.2.2.1 _ lt_java_lang_Double_doubleToRawLongBits_D_J) (X.2.2.2.2.1 _ lz_java_lang_Double) (by decide) (by simp [ab_cat, ab_cI, ab_cJ, ab_cD, ab_cF]) dJxe99ae_doubleToLongBits_ccdee_8 ?_
    exact ab_lret X S hr hF dJxe99ae_doubleToLongBits_ccdee_11
def f_X1_init_94  : Nat → Option Nat → Int32 → Int32 → Hp → Option (Unit × Hp)
  | 0, _, _, _, _ => none
  | n + 1, v0, v2, v6, h => if v2 ≤ v6 then
      some ((), h)
    else
      (getR h v0 1 11).bind fun x2 =>
      (astI h x2 v6 (-1)).bind fun h3 =>
      f_X1_init_94 n v0 v2 (v6 + 1) h3
set_option maxHeartbeats 4000000 in
set_option maxRecDepth 100000 in
theorem w_X1_init_94 {p : Program} {l : Launch} {e : Env} {s : State} {m : MethodId} {args : Array Value} {below : List Frame} {meth : Method} {c : Code} {D : va_G} {cA : Nat → ClassId} {sz : Nat}  {hh : Hp}  (X : ab_X p s m args meth c cX1_init 7 RX1 D cA sz) (hr : meth.sig.returnType = none) (hin : meth.name = "<init>")  (n : Nat) : ∀ (v0 : Option Nat) (v2 : Int32) (v6 : Int32) (h : Hp) (H : Heap) (locs : List Loc) (ls : Array Slot), ab_H D cA sz h s H locs → lv_has ls 7 [(0, va_rf v0), (2, .int v2), (6, .int v6)] → f_X1_init_94 n v0 v2 v6 h = some ((), hh) → W p l e (ab_rm 2 9 8002) s m args below meth c H locs 9 8002 (MQ below (ab_Q D cA sz none hh) args s 9 8002 (fun q => sz ≤ q)) (F0 m 94 ls []) := by
  induction n with
  | zero => intro v0 v2 v6 h H locs ls S hl hF; cases hF
  | succ n ih =>
    intro v0 v2 v6 h H locs ls S hl hF
    rw [f_X1_init_94] at hF
    refine lv_iload X.1 X.2.1 dX1_init_94 (lv_at hl 2 rfl) ?_
    refine lv_iload_n X.1 X.2.1 dX1_init_96 rfl (lv_at hl 1 rfl) ?_
    refine lv_icmp_ge (tgt := 114) X.1 X.2.1 dX1_init_97 (by decide) (fun c1 => ?_) (fun c1 => ?_)
    · have hF := ab_pos c1 hF
      refine W.widen (k := 9) (n := 8002) (Nat.le_of_ble_eq_true rfl) (Nat.le_of_ble_eq_true rfl) ?_
      exact ab_vret X S hr hF dX1_init_114
    · have hF := ab_neg c1 hF
      refine ab_aload_n X dX1_init_100 rfl (lv_at hl 0 rfl) ?_
      refine ab_getR X S hF fi_1_11 lf_X1_55 dX1_init_101 (fun x2 hF => ?_)
      refine lv_iload X.1 X.2.1 dX1_init_104 (lv_at hl 2 rfl) ?_
      refine lv_iconst (v := (-1)) X.1 X.2.1 dX1_init_106 (by decide) ?_
      refine ab_astI X S hF dX1_init_107 (fun h3 H1 locs1 hF S => ?_)
      refine lv_iinc (v := v6 + 1) (lv' := [(6, .int (v6 + 1)), (0, va_rf v0), (2, .int v2)]) X.1 X.2.1 dX1_init_108 hl (k := 2) rfl (by rfl) (by decide) (by simp [ab_cat, ab_cI, ab_cJ, ab_cD, ab_cF]) (fun ls hl => ?_)
      refine lv_goto (tgt := 94) X.1 X.2.1 dX1_init_111 (by decide) ?_
      refine W.widen (k := 9) (n := 8002) (Nat.le_of_ble_eq_true rfl) (Nat.le_of_ble_eq_true rfl) ?_
      exact ih _ _ _ _ _ _ _ S (lv_sub hl [1, 2, 0] rfl) hF
def f_X1_init (this : Nat) (p0 : Int32) (p1 : Int32) (p2 : Int32) (p3 : Option Nat) (p4 : Option Nat) (h : Hp) : Option (Unit × Hp) :=
  (putI h (some this) 1 0 p0).bind fun h1 =>
  (putI h1 (some this) 1 1 p1).bind fun h2 =>
  (putI h2 (some this) 1 2 p2).bind fun h3 =>
  (putR h3 (some this) 1 3 p3).bind fun h4 =>
  (putR h4 (some this) 1 4 p4).bind fun h5 =>
  bnd (newa h5 11 48) fun x7 h6 =>
  (putR h6 (some this) 1 5 x7).bind fun h8 =>
  bnd (newa h8 11 48) fun x10 h9 =>
  (putR h9 (some this) 1 6 x10).bind fun h11 =>
  bnd (newa h11 11 48) fun x13 h12 =>
  (putR h12 (some this) 1 7 x13).bind fun h14 =>
  bnd (newa h14 11 48) fun x16 h15 =>
  (putR h15 (some this) 1 8 x16).bind fun h17 =>
  bnd (newa h17 10 48) fun x19 h18 =>
  (putR h18 (some this) 1 9 x19).bind fun h20 =>
  newo h20 3 fun q22 h21 =>
  bnd (f_X3_init q22 48 h21) fun _ h24 =>
  (putR h24 (some this) 1 13 (some q22)).bind fun h26 =>
  bnd (newa h26 11 p1) fun x28 h27 =>
  (putR h27 (some this) 1 11 x28).bind fun h29 =>
  f_X1_init_94 fuelN (some this) p1 0 h29
theorem mi_X1_init : ab_MI yX1_init cX1_init 7 none 5 := ⟨lc_yX1_init, lz_RX1, by decide, by decide, by decide +kernel⟩
set_option maxHeartbeats 4000000 in
set_option maxRecDepth 100000 in
theorem c_X1_init (l : Launch) (D : va_G) (cA : Nat → ClassId) (sz : Nat) {this : Nat} {p0 : Int32} {p1 : Int32} {p2 : Int32} {p3 : Option Nat} {p4 : Option Nat} {h hh : Hp}  (hF : f_X1_init this p0 p1 p2 p3 p4 h = some ((), hh)) : ab_C l D cA sz yX1_init cX1_init 7 none 2 9 8002 [.ref this, .int p0, .int p1, .int p2, va_rf p3, va_rf p4] h none hh := by
  refine Met.ofW (cc := cX1_init) (maxL := 7) (ret := none) (by decide) rfl ?_
  intro p e s m args below meth c s₁ B hml hv
  obtain ⟨rfl, hT, hR⟩ := hv
  have X : ab_X p s m _ meth c cX1_init 7 RX1 D cA sz := (ab_enter B hml hT hR).1
  have S := (ab_enter B hml hT hR).2
  have hr := B.returns
  obtain ⟨ls, hls, hl⟩ := ab_entry m [.ref this, .int p0, .int p1, .int p2, va_rf p3, va_rf p4] 7 (lv := [(0, .ref this), (1, .int p0), (2, .int p1), (3, .int p2), (4, va_rf p3), (5, va_rf p4)]) (by simp [lg_sl, ab_cat, ab_cI, ab_cJ, ab_cD, ab_cF, ab_cA]) (by simp [lv_args, ab_cat, ab_cI, ab_cJ, ab_cD, ab_cF, ab_cA])
  rw [hls]
  have hl : lv_has ls 7 [(0, va_rf (some this)), (1, .int p0), (2, .int p1), (3, .int p2), (4, va_rf p3), (5, va_rf p4)] := hl
  have hin : meth.name = "<init>" := (name_of_methodNamed B.named B.method).1
  unfold f_X1_init at hF
  show W p l e (ab_rm 2 9 8002) s m _ below meth c s.heap [] 0 0 _ _
  refine ab_aload_n X dX1_init_0 rfl (lv_at hl 0 rfl) ?_
  refine ab_objInit X lm_X1_3 hl.1 (by decide) (by simp [ab_cat, ab_cI, ab_cJ, ab_cD, ab_cF]) dX1_init_1 ?_
  refine ab_aload_n X dX1_init_4 rfl (lv_at hl 0 rfl) ?_
  refine lv_iload_n X.1 X.2.1 dX1_init_5 rfl (lv_at hl 1 rfl) ?_
  refine ab_putI X S hF fi_1_0 ci_1 (Or.inr ⟨rfl, hin, rfl⟩) rfl lf_X1_9 dX1_init_6 (fun h1 H1 locs1 hF S => ?_)
  refine ab_aload_n X dX1_init_9 rfl (lv_at hl 0 rfl) ?_
  refine lv_iload_n X.1 X.2.1 dX1_init_10 rfl (lv_at hl 2 rfl) ?_
  refine ab_putI X S hF fi_1_1 ci_1 (Or.inr ⟨rfl, hin, rfl⟩) rfl lf_X1_15 dX1_init_11 (fun h2 H1 locs1 hF S => ?_)
  refine ab_aload_n X dX1_init_14 rfl (lv_at hl 0 rfl) ?_
  refine lv_iload_n X.1 X.2.1 dX1_init_15 rfl (lv_at hl 3 rfl) ?_
  refine ab_putI X S hF fi_1_2 ci_1 (Or.inr ⟨rfl, hin, rfl⟩) rfl lf_X1_18 dX1_init_16 (fun h3 H1 locs1 hF S => ?_)
  refine ab_aload_n X dX1_init_19 rfl (lv_at hl 0 rfl) ?_
  refine ab_aload X dX1_init_20 (lv_at hl 4 rfl) ?_
  refine ab_putR X S hF fi_1_3 ci_1 (Or.inr ⟨rfl, hin, rfl⟩) (fun q => by cases q <;> rfl) (fun q => by cases q <;> rfl) lf_X1_21 dX1_init_22 (fun h4 H1 locs1 hF S => ?_)
  refine ab_aload_n X dX1_init_25 rfl (lv_at hl 0 rfl) ?_
  refine ab_aload X dX1_init_26 (lv_at hl 5 rfl) ?_
  refine ab_putR X S hF fi_1_4 ci_1 (Or.inr ⟨rfl, hin, rfl⟩) (fun q => by cases q <;> rfl) (fun q => by cases q <;> rfl) lf_X1_25 dX1_init_28 (fun h5 H1 locs1 hF S => ?_)
  refine ab_aload_n X dX1_init_31 rfl (lv_at hl 0 rfl) ?_
  refine lv_bipush (v := 48) X.1 X.2.1 dX1_init_32 (by decide) ?_
  refine ab_newI X S hF la_int (by decide) (by decide) dX1_init_34 (fun x7 h6 H1 hF S => ?_)
  refine ab_putR X S hF fi_1_5 ci_1 (Or.inr ⟨rfl, hin, rfl⟩) (fun q => by cases q <;> rfl) (fun q => by cases q <;> rfl) lf_X1_29 dX1_init_36 (fun h8 H1 locs1 hF S => ?_)
  refine ab_aload_n X dX1_init_39 rfl (lv_at hl 0 rfl) ?_
  refine lv_bipush (v := 48) X.1 X.2.1 dX1_init_40 (by decide) ?_
  refine ab_newI X S hF la_int (by decide) (by decide) dX1_init_42 (fun x10 h9 H1 hF S => ?_)
  refine ab_putR X S hF fi_1_6 ci_1 (Or.inr ⟨rfl, hin, rfl⟩) (fun q => by cases q <;> rfl) (fun q => by cases q <;> rfl) lf_X1_33 dX1_init_44 (fun h11 H1 locs1 hF S => ?_)
  refine ab_aload_n X dX1_init_47 rfl (lv_at hl 0 rfl) ?_
  refine lv_bipush (v := 48) X.1 X.2.1 dX1_init_48 (by decide) ?_
  refine ab_newI X S hF la_int (by decide) (by decide) dX1_init_50 (fun x13 h12 H1 hF S => ?_)
  refine ab_putR X S hF fi_1_7 ci_1 (Or.inr ⟨rfl, hin, rfl⟩) (fun q => by cases q <;> rfl) (fun q => by cases q <;> rfl) lf_X1_36 dX1_init_52 (fun h14 H1 locs1 hF S => ?_)
  refine ab_aload_n X dX1_init_55 rfl (lv_at hl 0 rfl) ?_
  refine lv_bipush (v := 48) X.1 X.2.1 dX1_init_56 (by decide) ?_
  refine ab_newI X S hF la_int (by decide) (by decide) dX1_init_58 (fun x16 h15 H1 hF S => ?_)
  refine ab_putR X S hF fi_1_8 ci_1 (Or.inr ⟨rfl, hin, rfl⟩) (fun q => by cases q <;> rfl) (fun q => by cases q <;> rfl) lf_X1_39 dX1_init_60 (fun h17 H1 locs1 hF S => ?_)
  refine ab_aload_n X dX1_init_63 rfl (lv_at hl 0 rfl) ?_
  refine lv_bipush (v := 48) X.1 X.2.1 dX1_init_64 (by decide) ?_
  refine ab_newD X S hF la_double (by decide) (by decide) dX1_init_66 (fun x19 h18 H1 hF S => ?_)
  refine ab_putR X S hF fi_1_9 ci_1 (Or.inr ⟨rfl, hin, rfl⟩) (fun q => by cases q <;> rfl) (fun q => by cases q <;> rfl) lf_X1_42 dX1_init_68 (fun h20 H1 locs1 hF S => ?_)
  refine ab_aload_n X dX1_init_71 rfl (lv_at hl 0 rfl) ?_
  refine ab_newx X S hF fi_3_0 ci_3 df_3 lk_X1_46 ln_RX3_2 lz_RX3 (by decide) (by decide) dX1_init_72 (fun q22 h21 H1 hF S => ?_)
  refine lv_dup X.1 X.2.1 dX1_init_75 (by simp [ab_cat, ab_cI, ab_cJ, ab_cD, ab_cF]) ?_
  refine lv_bipush (v := 48) X.1 X.2.1 dX1_init_76 (by decide) ?_
  obtain ⟨x23, h24, e25, hF⟩ := bnd_out hF
  refine ab_callIv X S (c_X3_init l D cA sz e25) mi_X3_init rfl lm_X1_48 li_yX3_init (As := [.int 48]) (rest := [va_rf (some q22), va_rf (some this)]) rfl ⟨by decide, by decide⟩ ⟨(by decide), (by decide)⟩ hl.1 rfl (by simp [ab_cat, ab_cI, ab_cJ, ab_cD, ab_cF]) dX1_init_78 (fun H1 locs1 S => ?_)
  refine ab_putR X S hF fi_1_13 ci_1 (Or.inr ⟨rfl, hin, rfl⟩) (fun q => by cases q <;> rfl) (fun q => by cases q <;> rfl) lf_X1_51 dX1_init_81 (fun h26 H1 locs1 hF S => ?_)
  refine ab_aload_n X dX1_init_84 rfl (lv_at hl 0 rfl) ?_
  refine lv_iload_n X.1 X.2.1 dX1_init_85 rfl (lv_at hl 2 rfl) ?_
  refine ab_newI X S hF la_int (by decide) (by decide) dX1_init_86 (fun x28 h27 H1 hF S => ?_)
  refine ab_putR X S hF fi_1_11 ci_1 (Or.inr ⟨rfl, hin, rfl⟩) (fun q => by cases q <;> rfl) (fun q => by cases q <;> rfl) lf_X1_55 dX1_init_88 (fun h29 H1 locs1 hF S => ?_)
  refine lv_iconst (v := 0) X.1 X.2.1 dX1_init_91 (by decide) ?_
  refine lv_istore (lv' := [(6, .int 0), (0, va_rf (some this)), (1, .int p0), (2, .int p1), (3, .int p2), (4, va_rf p3), (5, va_rf p4)]) X.1 X.2.1 dX1_init_92 hl (by decide) (by simp [ab_cat, ab_cI, ab_cJ, ab_cD, ab_cF]) (fun ls hl => ?_)
  refine W.widen (k := 9) (n := 8002) (Nat.le_of_ble_eq_true rfl) (Nat.le_of_ble_eq_true rfl) ?_
  exact w_X1_init_94 X hr hin  fuelN _ _ _ _ _ _ _ S (lv_sub hl [1, 3, 0] rfl) hF
def f_X1_reckoned_367  (u0 : Int32) (u1 : Option Nat) (u2 : Option Nat) (h : Hp) : Option (UInt64 × Hp) :=
  (ab_ck h u2 (2, 0)).bind fun a4 =>
  bnd (f_X2_read a4 u1 u0 h) fun x1 h2 =>
  some (x1, h2)
set_option maxHeartbeats 4000000 in
set_option maxRecDepth 100000 in
theorem w_X1_reckoned_367 {p : Program} {l : Launch} {e : Env} {s : State} {m : MethodId} {args : Array Value} {below : List Frame} {meth : Method} {c : Code} {D : va_G} {cA : Nat → ClassId} {sz : Nat} {rr : UInt64} {hh : Hp}  (X : ab_X p s m args meth c cX1_reckoned 8 RX1 D cA sz) (hr : meth.sig.returnType = (some .double))  {H : Heap} {locs : List Loc} {ls : Array Slot} {u0 : Int32} {u1 : Option Nat} {u2 : Option Nat} {h : Hp} (S : ab_H D cA sz h s H locs) (hl : lv_has ls 8 []) (hF : f_X1_reckoned_367 u0 u1 u2 h = some (rr, hh)) : W p l e (ab_rm 1 0 0) s m args below meth c H locs 0 0 (MQ below (ab_Q D cA sz (some (.double rr)) hh) args s 0 0 (fun q => sz ≤ q)) (F0 m 367 ls [.int u0, va_rf u1, va_rf u2]) := by
  unfold f_X1_reckoned_367 at hF
  obtain ⟨a4, e5, hF⟩ := bind_out hF
  obtain ⟨x1, h2, e3, hF⟩ := bnd_out hF
  refine ab_callVd X S e5 (c_X2_read l D cA sz e3) rfl (by decide) mi_X2_read lm_X1_92 li_yX2_read ls_yX2_read (As := [va_rf u1, .int u0]) (rest := []) rfl ⟨by decide, by decide⟩ ⟨(by decide), (by decide)⟩ hl.1 rfl (by simp [ab_cat, ab_cI, ab_cJ, ab_cD, ab_cF]) dX1_reckoned_367 (fun H1 locs1 S => ?_)
  exact ab_dret X S hr hF dX1_reckoned_370
def f_X1_reckoned_402  (u0 : UInt64) (h : Hp) : Option (UInt64 × Hp) :=
  some (u0, h)
set_option maxHeartbeats 4000000 in
set_option maxRecDepth 100000 in
theorem w_X1_reckoned_402 {p : Program} {l : Launch} {e : Env} {s : State} {m : MethodId} {args : Array Value} {below : List Frame} {meth : Method} {c : Code} {D : va_G} {cA : Nat → ClassId} {sz : Nat} {rr : UInt64} {hh : Hp}  (X : ab_X p s m args meth c cX1_reckoned 8 RX1 D cA sz) (hr : meth.sig.returnType = (some .double))  {H : Heap} {locs : List Loc} {ls : Array Slot} {u0 : UInt64} {h : Hp} (S : ab_H D cA sz h s H locs) (hl : lv_has ls 8 []) (hF : f_X1_reckoned_402 u0 h = some (rr, hh)) : W p l e (ab_rm 1 0 0) s m args below meth c H locs 0 0 (MQ below (ab_Q D cA sz (some (.double rr)) hh) args s 0 0 (fun q => sz ≤ q)) (F0 m 402 ls [.double u0]) := by
  unfold f_X1_reckoned_402 at hF
  exact ab_dret X S hr hF dX1_reckoned_402
def f_X1_reckoned_447  (u0 : UInt64) (h : Hp) : Option (UInt64 × Hp) :=
  some (u0, h)
set_option maxHeartbeats 4000000 in
set_option maxRecDepth 100000 in
theorem w_X1_reckoned_447 {p : Program} {l : Launch} {e : Env} {s : State} {m : MethodId} {args : Array Value} {below : List Frame} {meth : Method} {c : Code} {D : va_G} {cA : Nat → ClassId} {sz : Nat} {rr : UInt64} {hh : Hp}  (X : ab_X p s m args meth c cX1_reckoned 8 RX1 D cA sz) (hr : meth.sig.returnType = (some .double))  {H : Heap} {locs : List Loc} {ls : Array Slot} {u0 : UInt64} {h : Hp} (S : ab_H D cA sz h s H locs) (hl : lv_has ls 8 []) (hF : f_X1_reckoned_447 u0 h = some (rr, hh)) : W p l e (ab_rm 1 0 0) s m args below meth c H locs 0 0 (MQ below (ab_Q D cA sz (some (.double rr)) hh) args s 0 0 (fun q => sz ≤ q)) (F0 m 447 ls [.double u0]) := by
  unfold f_X1_reckoned_447 at hF
  exact ab_dret X S hr hF dX1_reckoned_447
def f_X1_reckoned_425   (h : Hp) : Option (UInt64 × Hp) :=
  f_X1_reckoned_447 FP.dconst0 h
set_option maxHeartbeats 4000000 in
set_option maxRecDepth 100000 in
theorem w_X1_reckoned_425 {p : Program} {l : Launch} {e : Env} {s : State} {m : MethodId} {args : Array Value} {below : List Frame} {meth : Method} {c : Code} {D : va_G} {cA : Nat → ClassId} {sz : Nat} {rr : UInt64} {hh : Hp}  (X : ab_X p s m args meth c cX1_reckoned 8 RX1 D cA sz) (hr : meth.sig.returnType = (some .double))  {H : Heap} {locs : List Loc} {ls : Array Slot}  {h : Hp} (S : ab_H D cA sz h s H locs) (hl : lv_has ls 8 []) (hF : f_X1_reckoned_425  h = some (rr, hh)) : W p l e (ab_rm 1 0 0) s m args below meth c H locs 0 0 (MQ below (ab_Q D cA sz (some (.double rr)) hh) args s 0 0 (fun q => sz ≤ q)) (F0 m 425 ls []) := by
  unfold f_X1_reckoned_425 at hF
  refine lv_dconst0 X.1 X.2.1 dX1_reckoned_425 ?_
  refine lv_goto (tgt := 447) X.1 X.2.1 dX1_reckoned_426 (by decide) ?_
  exact w_X1_reckoned_447 X hr  S (lv_sub hl [] rfl) hF
def f_X1_reckoned (this : Nat) (p0 : Int32) (p1 : UInt64) (p2 : Option Nat) (h : Hp) : Option (UInt64 × Hp) :=
  (getR h (some this) 1 6).bind fun x1 =>
  (aldI h x1 11 p0).bind fun x2 =>
  (getR h (some this) 1 7).bind fun x3 =>
  (aldI h x3 11 p0).bind fun x4 =>
  (getR h (some this) 1 5).bind fun x5 =>
  (aldI h x5 11 p0).bind fun x6 =>
  if x6.toInt < 0 ∨ 12 < x6.toInt then
    (getR h (some this) 1 9).bind fun x8 =>
    (aldD h x8 p0).bind fun x9 =>
    some (x9, h)
  else if x6 = 0 then
    (getR h (some this) 1 4).bind fun x11 =>
    (ab_ck h x11 (2, 0)).bind fun a15 =>
    bnd (f_X2_read a15 p2 x2 h) fun x12 h13 =>
    some (x12, h13)
  else if x6 = 1 then
    some (p1, h)
  else if x6 = 2 then
    (getR h (some this) 1 4).bind fun x19 =>
    (getR h (some this) 1 4).bind fun x20 =>
    (getR h (some this) 1 13).bind fun x21 =>
    (ab_ck h x20 (2, 0)).bind fun a25 =>
    bnd (f_X2_read a25 x21 x2 h) fun x22 h23 =>
    (getR h23 (some this) 1 4).bind fun x27 =>
    (getR h23 (some this) 1 13).bind fun x28 =>
    (ab_ck h23 x27 (2, 0)).bind fun a32 =>
    bnd (f_X2_read a32 x28 x4 h23) fun x29 h30 =>
    (ab_ck h30 x19 (2, 0)).bind fun a37 =>
    bnd (f_X2_sum a37 x22 x29 h30) fun x34 h35 =>
    some (x34, h35)
  else if x6 = 3 then
    (getR h (some this) 1 4).bind fun x40 =>
    (getR h (some this) 1 4).bind fun x41 =>
    (getR h (some this) 1 13).bind fun x42 =>
    (ab_ck h x41 (2, 0)).bind fun a46 =>
    bnd (f_X2_read a46 x42 x2 h) fun x43 h44 =>
    (getR h44 (some this) 1 4).bind fun x48 =>
    (getR h44 (some this) 1 13).bind fun x49 =>
    (ab_ck h44 x48 (2, 0)).bind fun a53 =>
    bnd (f_X2_read a53 x49 x4 h44) fun x50 h51 =>
    (ab_ck h51 x40 (2, 0)).bind fun a58 =>
    bnd (f_X2_difference a58 x43 x50 h51) fun x55 h56 =>
    some (x55, h56)
  else if x6 = 4 then
    (getR h (some this) 1 4).bind fun x61 =>
    (getR h (some this) 1 4).bind fun x62 =>
    (getR h (some this) 1 13).bind fun x63 =>
    (ab_ck h x62 (2, 0)).bind fun a67 =>
    bnd (f_X2_read a67 x63 x2 h) fun x64 h65 =>
    (getR h65 (some this) 1 4).bind fun x69 =>
    (getR h65 (some this) 1 13).bind fun x70 =>
    (ab_ck h65 x69 (2, 0)).bind fun a74 =>
    bnd (f_X2_read a74 x70 x4 h65) fun x71 h72 =>
    (ab_ck h72 x61 (2, 0)).bind fun a79 =>
    bnd (f_X2_product a79 x64 x71 h72) fun x76 h77 =>
    some (x76, h77)
  else if x6 = 5 then
    (getR h (some this) 1 4).bind fun x82 =>
    (getR h (some this) 1 4).bind fun x83 =>
    (getR h (some this) 1 13).bind fun x84 =>
    (ab_ck h x83 (2, 0)).bind fun a88 =>
    bnd (f_X2_read a88 x84 x2 h) fun x85 h86 =>
    (getR h86 (some this) 1 4).bind fun x90 =>
    (getR h86 (some this) 1 13).bind fun x91 =>
    (ab_ck h86 x90 (2, 0)).bind fun a95 =>
    bnd (f_X2_read a95 x91 x4 h86) fun x92 h93 =>
    (ab_ck h93 x82 (2, 0)).bind fun a100 =>
    bnd (f_X2_quotient a100 x85 x92 h93) fun x97 h98 =>
    some (x97, h98)
  else if x6 = 6 then
    (getR h (some this) 1 4).bind fun x103 =>
    (getR h (some this) 1 13).bind fun x104 =>
    (ab_ck h x103 (2, 0)).bind fun a108 =>
    bnd (f_X2_read a108 x104 x2 h) fun x105 h106 =>
    some (FP.dneg x105, h106)
  else if x6 = 7 then
    (getR h (some this) 1 4).bind fun x111 =>
    (getR h (some this) 1 13).bind fun x112 =>
    (ab_ck h x111 (2, 0)).bind fun a116 =>
    bnd (f_X2_read a116 x112 x2 h) fun x113 h114 =>
    bnd (f_X8_size x113 h114) fun x118 h119 =>
    some (x118, h119)
  else if x6 = 8 then
    (getR h (some this) 1 4).bind fun x122 =>
    (getR h (some this) 1 4).bind fun x123 =>
    (getR h (some this) 1 13).bind fun x124 =>
    (ab_ck h x123 (2, 0)).bind fun a128 =>
    bnd (f_X2_read a128 x124 x2 h) fun x125 h126 =>
    (getR h126 (some this) 1 4).bind fun x130 =>
    (getR h126 (some this) 1 13).bind fun x131 =>
    (ab_ck h126 x130 (2, 0)).bind fun a135 =>
    bnd (f_X2_read a135 x131 x4 h126) fun x132 h133 =>
    (ab_ck h133 x122 (2, 0)).bind fun a140 =>
    bnd (f_X2_lesser a140 x125 x132 h133) fun x137 h138 =>
    some (x137, h138)
  else if x6 = 9 then
    (getR h (some this) 1 4).bind fun x143 =>
    (getR h (some this) 1 4).bind fun x144 =>
    (getR h (some this) 1 13).bind fun x145 =>
    (ab_ck h x144 (2, 0)).bind fun a149 =>
    bnd (f_X2_read a149 x145 x2 h) fun x146 h147 =>
    (getR h147 (some this) 1 4).bind fun x151 =>
    (getR h147 (some this) 1 13).bind fun x152 =>
    (ab_ck h147 x151 (2, 0)).bind fun a156 =>
    bnd (f_X2_read a156 x152 x4 h147) fun x153 h154 =>
    (ab_ck h154 x143 (2, 0)).bind fun a161 =>
    bnd (f_X2_greater a161 x146 x153 h154) fun x158 h159 =>
    some (x158, h159)
  else if x6 = 10 then
    (getR h (some this) 1 4).bind fun x164 =>
    (getR h (some this) 1 13).bind fun x165 =>
    (ab_ck h (some this) (1, 0)).bind fun a169 =>
    bnd (f_X1_signOf a169 x2 h) fun x166 h167 =>
    if ¬ x166 = (-1) then
      (getR h167 (some this) 1 8).bind fun x172 =>
      (aldI h167 x172 11 p0).bind fun x173 =>
      f_X1_reckoned_367 x173 x165 x164 h167
    else
      f_X1_reckoned_367 x4 x165 x164 h167
  else if x6 = 11 then
    if ¬ x4 = 0 then
      (getR h (some this) 1 4).bind fun x176 =>
      (getR h (some this) 1 4).bind fun x177 =>
      (getR h (some this) 1 13).bind fun x178 =>
      (ab_ck h x177 (2, 0)).bind fun a182 =>
      bnd (f_X2_read a182 x178 x2 h) fun x179 h180 =>
      (ab_ck h180 x176 (2, 0)).bind fun a187 =>
      bnd (f_X2_power a187 x179 x4 h180) fun x184 h185 =>
      f_X1_reckoned_402 x184 h185
    else
      f_X1_reckoned_402 FP.dconst1 h
  else if x6 = 12 then
    (getR h (some this) 1 3).bind fun x190 =>
    (aldR h x190 16 x4).bind fun x191 =>
    if x191 = none then
      f_X1_reckoned_425 h
    else
      (getI h x191 5 3).bind fun x193 =>
      if ¬ x193 = 0 then
        (getR h (some this) 1 4).bind fun x195 =>
        (getR h (some this) 1 13).bind fun x196 =>
        (ab_ck h x195 (2, 0)).bind fun a200 =>
        bnd (f_X2_read a200 x196 x2 h) fun x197 h198 =>
        (ab_ck h198 x191 (5, 0)).bind fun a205 =>
        bnd (f_X5_heightAt a205 x197 h198) fun x202 h203 =>
        f_X1_reckoned_447 x202 h203
      else
        f_X1_reckoned_425 h
  else none
theorem mi_X1_reckoned : ab_MI yX1_reckoned cX1_reckoned 8 (some .double) 3 := ⟨lc_yX1_reckoned, lz_RX1, by decide, by decide, by decide +kernel⟩
set_option maxHeartbeats 4000000 in
set_option maxRecDepth 100000 in
theorem c_X1_reckoned (l : Launch) (D : va_G) (cA : Nat → ClassId) (sz : Nat) {this : Nat} {p0 : Int32} {p1 : UInt64} {p2 : Option Nat} {h hh : Hp} {rr : UInt64} (hF : f_X1_reckoned this p0 p1 p2 h = some (rr, hh)) : ab_C l D cA sz yX1_reckoned cX1_reckoned 8 (some .double) 1 0 0 [.ref this, .int p0, .double p1, va_rf p2] h (some (.double rr)) hh := by
  refine Met.ofW (cc := cX1_reckoned) (maxL := 8) (ret := (some .double)) (by decide) rfl ?_
  intro p e s m args below meth c s₁ B hml hv
  obtain ⟨rfl, hT, hR⟩ := hv
  have X : ab_X p s m _ meth c cX1_reckoned 8 RX1 D cA sz := (ab_enter B hml hT hR).1
  have S := (ab_enter B hml hT hR).2
  have hr := B.returns
  obtain ⟨ls, hls, hl⟩ := ab_entry m [.ref this, .int p0, .double p1, va_rf p2] 8 (lv := [(0, .ref this), (1, .int p0), (2, .double p1), (4, va_rf p2)]) (by simp [lg_sl, ab_cat, ab_cI, ab_cJ, ab_cD, ab_cF, ab_cA]) (by simp [lv_args, ab_cat, ab_cI, ab_cJ, ab_cD, ab_cF, ab_cA])
  rw [hls]
  have hl : lv_has ls 8 [(0, va_rf (some this)), (1, .int p0), (2, .double p1), (4, va_rf p2)] := hl
  unfold f_X1_reckoned at hF
  show W p l e (ab_rm 1 0 0) s m _ below meth c s.heap [] 0 0 _ _
  refine ab_aload_n X dX1_reckoned_0 rfl (lv_at hl 0 rfl) ?_
  refine ab_getR X S hF fi_1_6 lf_X1_33 dX1_reckoned_1 (fun x1 hF => ?_)
  refine lv_iload_n X.1 X.2.1 dX1_reckoned_4 rfl (lv_at hl 1 rfl) ?_
  refine ab_aldI X S hF dX1_reckoned_5 (fun x2 hF => ?_)
  refine lv_istore (lv' := [(5, .int x2), (0, va_rf (some this)), (1, .int p0), (2, .double p1), (4, va_rf p2)]) X.1 X.2.1 dX1_reckoned_6 hl (by decide) (by simp [ab_cat, ab_cI, ab_cJ, ab_cD, ab_cF]) (fun ls hl => ?_)
  refine ab_aload_n X dX1_reckoned_8 rfl (lv_at hl 1 rfl) ?_
  refine ab_getR X S hF fi_1_7 lf_X1_36 dX1_reckoned_9 (fun x3 hF => ?_)
  refine lv_iload_n X.1 X.2.1 dX1_reckoned_12 rfl (lv_at hl 2 rfl) ?_
  refine ab_aldI X S hF dX1_reckoned_13 (fun x4 hF => ?_)
  refine lv_istore (lv' := [(6, .int x4), (5, .int x2), (0, va_rf (some this)), (1, .int p0), (2, .double p1), (4, va_rf p2)]) X.1 X.2.1 dX1_reckoned_14 hl (by decide) (by simp [ab_cat, ab_cI, ab_cJ, ab_cD, ab_cF]) (fun ls hl => ?_)
  refine ab_aload_n X dX1_reckoned_16 rfl (lv_at hl 2 rfl) ?_
  refine ab_getR X S hF fi_1_5 lf_X1_29 dX1_reckoned_17 (fun x5 hF => ?_)
  refine lv_iload_n X.1 X.2.1 dX1_reckoned_20 rfl (lv_at hl 3 rfl) ?_
  refine ab_aldI X S hF dX1_reckoned_21 (fun x6 hF => ?_)
  by_cases c7 : x6.toInt < 0 ∨ 12 < x6.toInt
  · have hF := ab_pos c7 hF
    refine lv_tableOut (tgt := 448) X.1 X.2.1 dX1_reckoned_22 c7 (by decide) ?_
    refine ab_aload_n X dX1_reckoned_448 rfl (lv_at hl 2 rfl) ?_
    refine ab_getR X S hF fi_1_9 lf_X1_42 dX1_reckoned_449 (fun x8 hF => ?_)
    refine lv_iload_n X.1 X.2.1 dX1_reckoned_452 rfl (lv_at hl 3 rfl) ?_
    refine ab_aldD X S hF dX1_reckoned_453 (fun x9 hF => ?_)
    exact ab_dret X S hr hF dX1_reckoned_454
  have hF := ab_neg c7 hF
  by_cases c10 : x6 = 0
  · have hF := ab_pos c10 hF
    refine ab_tab (tgt := 88) X dX1_reckoned_22 c10 (by decide) (by decide) rfl (by decide) ?_
    refine ab_aload_n X dX1_reckoned_88 rfl (lv_at hl 2 rfl) ?_
    refine ab_getR X S hF fi_1_4 lf_X1_25 dX1_reckoned_89 (fun x11 hF => ?_)
    refine ab_aload X dX1_reckoned_92 (lv_at hl 5 rfl) ?_
    refine lv_iload X.1 X.2.1 dX1_reckoned_94 (lv_at hl 1 rfl) ?_
    obtain ⟨a15, e16, hF⟩ := bind_out hF
    obtain ⟨x12, h13, e14, hF⟩ := bnd_out hF
    refine ab_callVd X S e16 (c_X2_read l D cA sz e14) rfl (by decide) mi_X2_read lm_X1_92 li_yX2_read ls_yX2_read (As := [va_rf p2, .int x2]) (rest := []) rfl ⟨by decide, by decide⟩ ⟨(by decide), (by decide)⟩ hl.1 rfl (by simp [ab_cat, ab_cI, ab_cJ, ab_cD, ab_cF]) dX1_reckoned_96 (fun H1 locs1 S => ?_)
    exact ab_dret X S hr hF dX1_reckoned_99
  have hF := ab_neg c10 hF
  by_cases c17 : x6 = 1
  · have hF := ab_pos c17 hF
    refine ab_tab (tgt := 100) X dX1_reckoned_22 c17 (by decide) (by decide) rfl (by decide) ?_
    refine lv_dload_n X.1 X.2.1 dX1_reckoned_100 rfl (lv_at hl 4 rfl) ?_
    exact ab_dret X S hr hF dX1_reckoned_101
  have hF := ab_neg c17 hF
  by_cases c18 : x6 = 2
  · have hF := ab_pos c18 hF
    refine ab_tab (tgt := 102) X dX1_reckoned_22 c18 (by decide) (by decide) rfl (by decide) ?_
    refine ab_aload_n X dX1_reckoned_102 rfl (lv_at hl 2 rfl) ?_
    refine ab_getR X S hF fi_1_4 lf_X1_25 dX1_reckoned_103 (fun x19 hF => ?_)
    refine ab_aload_n X dX1_reckoned_106 rfl (lv_at hl 2 rfl) ?_
    refine ab_getR X S hF fi_1_4 lf_X1_25 dX1_reckoned_107 (fun x20 hF => ?_)
    refine ab_aload_n X dX1_reckoned_110 rfl (lv_at hl 2 rfl) ?_
    refine ab_getR X S hF fi_1_13 lf_X1_51 dX1_reckoned_111 (fun x21 hF => ?_)
    refine lv_iload X.1 X.2.1 dX1_reckoned_114 (lv_at hl 1 rfl) ?_
    obtain ⟨a25, e26, hF⟩ := bind_out hF
    obtain ⟨x22, h23, e24, hF⟩ := bnd_out hF
    refine ab_callVd X S e26 (c_X2_read l D cA sz e24) rfl (by decide) mi_X2_read lm_X1_92 li_yX2_read ls_yX2_read (As := [va_rf x21, .int x2]) (rest := [va_rf x19]) rfl ⟨by decide, by decide⟩ ⟨(by decide), (by decide)⟩ hl.1 rfl (by simp [ab_cat, ab_cI, ab_cJ, ab_cD, ab_cF]) dX1_reckoned_116 (fun H1 locs1 S => ?_)
    refine ab_aload_n X dX1_reckoned_119 rfl (lv_at hl 2 rfl) ?_
    refine ab_getR X S hF fi_1_4 lf_X1_25 dX1_reckoned_120 (fun x27 hF => ?_)
    refine ab_aload_n X dX1_reckoned_123 rfl (lv_at hl 2 rfl) ?_
    refine ab_getR X S hF fi_1_13 lf_X1_51 dX1_reckoned_124 (fun x28 hF => ?_)
    refine lv_iload X.1 X.2.1 dX1_reckoned_127 (lv_at hl 0 rfl) ?_
    obtain ⟨a32, e33, hF⟩ := bind_out hF
    obtain ⟨x29, h30, e31, hF⟩ := bnd_out hF
    refine ab_callVd X S e33 (c_X2_read l D cA sz e31) rfl (by decide) mi_X2_read lm_X1_92 li_yX2_read ls_yX2_read (As := [va_rf x28, .int x4]) (rest := [.double x22, va_rf x19]) rfl ⟨by decide, by decide⟩ ⟨(by decide), (by decide)⟩ hl.1 rfl (by simp [ab_cat, ab_cI, ab_cJ, ab_cD, ab_cF]) dX1_reckoned_129 (fun H1 locs1 S => ?_)
    obtain ⟨a37, e38, hF⟩ := bind_out hF
    obtain ⟨x34, h35, e36, hF⟩ := bnd_out hF
    refine ab_callVd X S e38 (c_X2_sum l D cA sz e36) rfl (by decide) mi_X2_sum lm_X1_96 li_yX2_sum ls_yX2_sum (As := [.double x22, .double x29]) (rest := []) rfl ⟨by decide, by decide⟩ ⟨(by decide), (by decide)⟩ hl.1 rfl (by simp [ab_cat, ab_cI, ab_cJ, ab_cD, ab_cF]) dX1_reckoned_132 (fun H1 locs1 S => ?_)
    exact ab_dret X S hr hF dX1_reckoned_135
  have hF := ab_neg c18 hF
  by_cases c39 : x6 = 3
  · have hF := ab_pos c39 hF
    refine ab_tab (tgt := 136) X dX1_reckoned_22 c39 (by decide) (by decide) rfl (by decide) ?_
    refine ab_aload_n X dX1_reckoned_136 rfl (lv_at hl 2 rfl) ?_
    refine ab_getR X S hF fi_1_4 lf_X1_25 dX1_reckoned_137 (fun x40 hF => ?_)
    refine ab_aload_n X dX1_reckoned_140 rfl (lv_at hl 2 rfl) ?_
    refine ab_getR X S hF fi_1_4 lf_X1_25 dX1_reckoned_141 (fun x41 hF => ?_)
    refine ab_aload_n X dX1_reckoned_144 rfl (lv_at hl 2 rfl) ?_
    refine ab_getR X S hF fi_1_13 lf_X1_51 dX1_reckoned_145 (fun x42 hF => ?_)
    refine lv_iload X.1 X.2.1 dX1_reckoned_148 (lv_at hl 1 rfl) ?_
    obtain ⟨a46, e47, hF⟩ := bind_out hF
    obtain ⟨x43, h44, e45, hF⟩ := bnd_out hF
    refine ab_callVd X S e47 (c_X2_read l D cA sz e45) rfl (by decide) mi_X2_read lm_X1_92 li_yX2_read ls_yX2_read (As := [va_rf x42, .int x2]) (rest := [va_rf x40]) rfl ⟨by decide, by decide⟩ ⟨(by decide), (by decide)⟩ hl.1 rfl (by simp [ab_cat, ab_cI, ab_cJ, ab_cD, ab_cF]) dX1_reckoned_150 (fun H1 locs1 S => ?_)
    refine ab_aload_n X dX1_reckoned_153 rfl (lv_at hl 2 rfl) ?_
    refine ab_getR X S hF fi_1_4 lf_X1_25 dX1_reckoned_154 (fun x48 hF => ?_)
    refine ab_aload_n X dX1_reckoned_157 rfl (lv_at hl 2 rfl) ?_
    refine ab_getR X S hF fi_1_13 lf_X1_51 dX1_reckoned_158 (fun x49 hF => ?_)
    refine lv_iload X.1 X.2.1 dX1_reckoned_161 (lv_at hl 0 rfl) ?_
    obtain ⟨a53, e54, hF⟩ := bind_out hF
    obtain ⟨x50, h51, e52, hF⟩ := bnd_out hF
    refine ab_callVd X S e54 (c_X2_read l D cA sz e52) rfl (by decide) mi_X2_read lm_X1_92 li_yX2_read ls_yX2_read (As := [va_rf x49, .int x4]) (rest := [.double x43, va_rf x40]) rfl ⟨by decide, by decide⟩ ⟨(by decide), (by decide)⟩ hl.1 rfl (by simp [ab_cat, ab_cI, ab_cJ, ab_cD, ab_cF]) dX1_reckoned_163 (fun H1 locs1 S => ?_)
    obtain ⟨a58, e59, hF⟩ := bind_out hF
    obtain ⟨x55, h56, e57, hF⟩ := bnd_out hF
    refine ab_callVd X S e59 (c_X2_difference l D cA sz e57) rfl (by decide) mi_X2_difference lm_X1_100 li_yX2_difference ls_yX2_difference (As := [.double x43, .double x50]) (rest := []) rfl ⟨by decide, by decide⟩ ⟨(by decide), (by decide)⟩ hl.1 rfl (by simp [ab_cat, ab_cI, ab_cJ, ab_cD, ab_cF]) dX1_reckoned_166 (fun H1 locs1 S => ?_)
    exact ab_dret X S hr hF dX1_reckoned_169
  have hF := ab_neg c39 hF
  by_cases c60 : x6 = 4
  · have hF := ab_pos c60 hF
    refine ab_tab (tgt := 170) X dX1_reckoned_22 c60 (by decide) (by decide) rfl (by decide) ?_
    refine ab_aload_n X dX1_reckoned_170 rfl (lv_at hl 2 rfl) ?_
    refine ab_getR X S hF fi_1_4 lf_X1_25 dX1_reckoned_171 (fun x61 hF => ?_)
    refine ab_aload_n X dX1_reckoned_174 rfl (lv_at hl 2 rfl) ?_
    refine ab_getR X S hF fi_1_4 lf_X1_25 dX1_reckoned_175 (fun x62 hF => ?_)
    refine ab_aload_n X dX1_reckoned_178 rfl (lv_at hl 2 rfl) ?_
    refine ab_getR X S hF fi_1_13 lf_X1_51 dX1_reckoned_179 (fun x63 hF => ?_)
    refine lv_iload X.1 X.2.1 dX1_reckoned_182 (lv_at hl 1 rfl) ?_
    obtain ⟨a67, e68, hF⟩ := bind_out hF
    obtain ⟨x64, h65, e66, hF⟩ := bnd_out hF
    refine ab_callVd X S e68 (c_X2_read l D cA sz e66) rfl (by decide) mi_X2_read lm_X1_92 li_yX2_read ls_yX2_read (As := [va_rf x63, .int x2]) (rest := [va_rf x61]) rfl ⟨by decide, by decide⟩ ⟨(by decide), (by decide)⟩ hl.1 rfl (by simp [ab_cat, ab_cI, ab_cJ, ab_cD, ab_cF]) dX1_reckoned_184 (fun H1 locs1 S => ?_)
    refine ab_aload_n X dX1_reckoned_187 rfl (lv_at hl 2 rfl) ?_
    refine ab_getR X S hF fi_1_4 lf_X1_25 dX1_reckoned_188 (fun x69 hF => ?_)
    refine ab_aload_n X dX1_reckoned_191 rfl (lv_at hl 2 rfl) ?_
    refine ab_getR X S hF fi_1_13 lf_X1_51 dX1_reckoned_192 (fun x70 hF => ?_)
    refine lv_iload X.1 X.2.1 dX1_reckoned_195 (lv_at hl 0 rfl) ?_
    obtain ⟨a74, e75, hF⟩ := bind_out hF
    obtain ⟨x71, h72, e73, hF⟩ := bnd_out hF
    refine ab_callVd X S e75 (c_X2_read l D cA sz e73) rfl (by decide) mi_X2_read lm_X1_92 li_yX2_read ls_yX2_read (As := [va_rf x70, .int x4]) (rest := [.double x64, va_rf x61]) rfl ⟨by decide, by decide⟩ ⟨(by decide), (by decide)⟩ hl.1 rfl (by simp [ab_cat, ab_cI, ab_cJ, ab_cD, ab_cF]) dX1_reckoned_197 (fun H1 locs1 S => ?_)
    obtain ⟨a79, e80, hF⟩ := bind_out hF
    obtain ⟨x76, h77, e78, hF⟩ := bnd_out hF
    refine ab_callVd X S e80 (c_X2_product l D cA sz e78) rfl (by decide) mi_X2_product lm_X1_103 li_yX2_product ls_yX2_product (As := [.double x64, .double x71]) (rest := []) rfl ⟨by decide, by decide⟩ ⟨(by decide), (by decide)⟩ hl.1 rfl (by simp [ab_cat, ab_cI, ab_cJ, ab_cD, ab_cF]) dX1_reckoned_200 (fun H1 locs1 S => ?_)
    exact ab_dret X S hr hF dX1_reckoned_203
  have hF := ab_neg c60 hF
  by_cases c81 : x6 = 5
  · have hF := ab_pos c81 hF
    refine ab_tab (tgt := 204) X dX1_reckoned_22 c81 (by decide) (by decide) rfl (by decide) ?_
    refine ab_aload_n X dX1_reckoned_204 rfl (lv_at hl 2 rfl) ?_
    refine ab_getR X S hF fi_1_4 lf_X1_25 dX1_reckoned_205 (fun x82 hF => ?_)
    refine ab_aload_n X dX1_reckoned_208 rfl (lv_at hl 2 rfl) ?_
    refine ab_getR X S hF fi_1_4 lf_X1_25 dX1_reckoned_209 (fun x83 hF => ?_)
    refine ab_aload_n X dX1_reckoned_212 rfl (lv_at hl 2 rfl) ?_
    refine ab_getR X S hF fi_1_13 lf_X1_51 dX1_reckoned_213 (fun x84 hF => ?_)
    refine lv_iload X.1 X.2.1 dX1_reckoned_216 (lv_at hl 1 rfl) ?_
    obtain ⟨a88, e89, hF⟩ := bind_out hF
    obtain ⟨x85, h86, e87, hF⟩ := bnd_out hF
    refine ab_callVd X S e89 (c_X2_read l D cA sz e87) rfl (by decide) mi_X2_read lm_X1_92 li_yX2_read ls_yX2_read (As := [va_rf x84, .int x2]) (rest := [va_rf x82]) rfl ⟨by decide, by decide⟩ ⟨(by decide), (by decide)⟩ hl.1 rfl (by simp [ab_cat, ab_cI, ab_cJ, ab_cD, ab_cF]) dX1_reckoned_218 (fun H1 locs1 S => ?_)
    refine ab_aload_n X dX1_reckoned_221 rfl (lv_at hl 2 rfl) ?_
    refine ab_getR X S hF fi_1_4 lf_X1_25 dX1_reckoned_222 (fun x90 hF => ?_)
    refine ab_aload_n X dX1_reckoned_225 rfl (lv_at hl 2 rfl) ?_
    refine ab_getR X S hF fi_1_13 lf_X1_51 dX1_reckoned_226 (fun x91 hF => ?_)
    refine lv_iload X.1 X.2.1 dX1_reckoned_229 (lv_at hl 0 rfl) ?_
    obtain ⟨a95, e96, hF⟩ := bind_out hF
    obtain ⟨x92, h93, e94, hF⟩ := bnd_out hF
    refine ab_callVd X S e96 (c_X2_read l D cA sz e94) rfl (by decide) mi_X2_read lm_X1_92 li_yX2_read ls_yX2_read (As := [va_rf x91, .int x4]) (rest := [.double x85, va_rf x82]) rfl ⟨by decide, by decide⟩ ⟨(by decide), (by decide)⟩ hl.1 rfl (by simp [ab_cat, ab_cI, ab_cJ, ab_cD, ab_cF]) dX1_reckoned_231 (fun H1 locs1 S => ?_)
    obtain ⟨a100, e101, hF⟩ := bind_out hF
    obtain ⟨x97, h98, e99, hF⟩ := bnd_out hF
    refine ab_callVd X S e101 (c_X2_quotient l D cA sz e99) rfl (by decide) mi_X2_quotient lm_X1_106 li_yX2_quotient ls_yX2_quotient (As := [.double x85, .double x92]) (rest := []) rfl ⟨by decide, by decide⟩ ⟨(by decide), (by decide)⟩ hl.1 rfl (by simp [ab_cat, ab_cI, ab_cJ, ab_cD, ab_cF]) dX1_reckoned_234 (fun H1 locs1 S => ?_)
    exact ab_dret X S hr hF dX1_reckoned_237
  have hF := ab_neg c81 hF
  by_cases c102 : x6 = 6
  · have hF := ab_pos c102 hF
    refine ab_tab (tgt := 238) X dX1_reckoned_22 c102 (by decide) (by decide) rfl (by decide) ?_
    refine ab_aload_n X dX1_reckoned_238 rfl (lv_at hl 2 rfl) ?_
    refine ab_getR X S hF fi_1_4 lf_X1_25 dX1_reckoned_239 (fun x103 hF => ?_)
    refine ab_aload_n X dX1_reckoned_242 rfl (lv_at hl 2 rfl) ?_
    refine ab_getR X S hF fi_1_13 lf_X1_51 dX1_reckoned_243 (fun x104 hF => ?_)
    refine lv_iload X.1 X.2.1 dX1_reckoned_246 (lv_at hl 1 rfl) ?_
    obtain ⟨a108, e109, hF⟩ := bind_out hF
    obtain ⟨x105, h106, e107, hF⟩ := bnd_out hF
    refine ab_callVd X S e109 (c_X2_read l D cA sz e107) rfl (by decide) mi_X2_read lm_X1_92 li_yX2_read ls_yX2_read (As := [va_rf x104, .int x2]) (rest := []) rfl ⟨by decide, by decide⟩ ⟨(by decide), (by decide)⟩ hl.1 rfl (by simp [ab_cat, ab_cI, ab_cJ, ab_cD, ab_cF]) dX1_reckoned_248 (fun H1 locs1 S => ?_)
    refine lv_dneg X.1 X.2.1 dX1_reckoned_251 ?_
    exact ab_dret X S hr hF dX1_reckoned_252
  have hF := ab_neg c102 hF
  by_cases c110 : x6 = 7
  · have hF := ab_pos c110 hF
    refine ab_tab (tgt := 253) X dX1_reckoned_22 c110 (by decide) (by decide) rfl (by decide) ?_
    refine ab_aload_n X dX1_reckoned_253 rfl (lv_at hl 2 rfl) ?_
    refine ab_getR X S hF fi_1_4 lf_X1_25 dX1_reckoned_254 (fun x111 hF => ?_)
    refine ab_aload_n X dX1_reckoned_257 rfl (lv_at hl 2 rfl) ?_
    refine ab_getR X S hF fi_1_13 lf_X1_51 dX1_reckoned_258 (fun x112 hF => ?_)
    refine lv_iload X.1 X.2.1 dX1_reckoned_261 (lv_at hl 1 rfl) ?_
    obtain ⟨a116, e117, hF⟩ := bind_out hF
    obtain ⟨x113, h114, e115, hF⟩ := bnd_out hF
    refine ab_callVd X S e117 (c_X2_read l D cA sz e115) rfl (by decide) mi_X2_read lm_X1_92 li_yX2_read ls_yX2_read (As := [va_rf x112, .int x2]) (rest := []) rfl ⟨by decide, by decide⟩ ⟨(by decide), (by decide)⟩ hl.1 rfl (by simp [ab_cat, ab_cI, ab_cJ, ab_cD, ab_cF]) dX1_reckoned_263 (fun H1 locs1 S => ?_)
    obtain ⟨x118, h119, e120, hF⟩ := bnd_out hF
    refine ab_callSNd X S (c_X8_size l D cA sz e120) mi_X8_size X.2.2.2.2.2.1.2.2.1.1 lt_yX8_size (As := [.double x113]) (rest := []) rfl ⟨by decide, by decide⟩ ⟨(by decide), (by decide)⟩ hl.1 rfl (by simp [ab_cat, ab_cI, ab_cJ, ab_cD, ab_cF]) dX1_reckoned_266 (fun H1 locs1 S => ?_)
    exact ab_dret X S hr hF dX1_reckoned_269
  have hF := ab_neg c110 hF
  by_cases c121 : x6 = 8
  · have hF := ab_pos c121 hF
    refine ab_tab (tgt := 270) X dX1_reckoned_22 c121 (by decide) (by decide) rfl (by decide) ?_
    refine ab_aload_n X dX1_reckoned_270 rfl (lv_at hl 2 rfl) ?_
    refine ab_getR X S hF fi_1_4 lf_X1_25 dX1_reckoned_271 (fun x122 hF => ?_)
    refine ab_aload_n X dX1_reckoned_274 rfl (lv_at hl 2 rfl) ?_
    refine ab_getR X S hF fi_1_4 lf_X1_25 dX1_reckoned_275 (fun x123 hF => ?_)
    refine ab_aload_n X dX1_reckoned_278 rfl (lv_at hl 2 rfl) ?_
    refine ab_getR X S hF fi_1_13 lf_X1_51 dX1_reckoned_279 (fun x124 hF => ?_)
    refine lv_iload X.1 X.2.1 dX1_reckoned_282 (lv_at hl 1 rfl) ?_
    obtain ⟨a128, e129, hF⟩ := bind_out hF
    obtain ⟨x125, h126, e127, hF⟩ := bnd_out hF
    refine ab_callVd X S e129 (c_X2_read l D cA sz e127) rfl (by decide) mi_X2_read lm_X1_92 li_yX2_read ls_yX2_read (As := [va_rf x124, .int x2]) (rest := [va_rf x122]) rfl ⟨by decide, by decide⟩ ⟨(by decide), (by decide)⟩ hl.1 rfl (by simp [ab_cat, ab_cI, ab_cJ, ab_cD, ab_cF]) dX1_reckoned_284 (fun H1 locs1 S => ?_)
    refine ab_aload_n X dX1_reckoned_287 rfl (lv_at hl 2 rfl) ?_
    refine ab_getR X S hF fi_1_4 lf_X1_25 dX1_reckoned_288 (fun x130 hF => ?_)
    refine ab_aload_n X dX1_reckoned_291 rfl (lv_at hl 2 rfl) ?_
    refine ab_getR X S hF fi_1_13 lf_X1_51 dX1_reckoned_292 (fun x131 hF => ?_)
    refine lv_iload X.1 X.2.1 dX1_reckoned_295 (lv_at hl 0 rfl) ?_
    obtain ⟨a135, e136, hF⟩ := bind_out hF
    obtain ⟨x132, h133, e134, hF⟩ := bnd_out hF
    refine ab_callVd X S e136 (c_X2_read l D cA sz e134) rfl (by decide) mi_X2_read lm_X1_92 li_yX2_read ls_yX2_read (As := [va_rf x131, .int x4]) (rest := [.double x125, va_rf x122]) rfl ⟨by decide, by decide⟩ ⟨(by decide), (by decide)⟩ hl.1 rfl (by simp [ab_cat, ab_cI, ab_cJ, ab_cD, ab_cF]) dX1_reckoned_297 (fun H1 locs1 S => ?_)
    obtain ⟨a140, e141, hF⟩ := bind_out hF
    obtain ⟨x137, h138, e139, hF⟩ := bnd_out hF
    refine ab_callVd X S e141 (c_X2_lesser l D cA sz e139) rfl (by decide) mi_X2_lesser lm_X1_113 li_yX2_lesser ls_yX2_lesser (As := [.double x125, .double x132]) (rest := []) rfl ⟨by decide, by decide⟩ ⟨(by decide), (by decide)⟩ hl.1 rfl (by simp [ab_cat, ab_cI, ab_cJ, ab_cD, ab_cF]) dX1_reckoned_300 (fun H1 locs1 S => ?_)
    exact ab_dret X S hr hF dX1_reckoned_303
  have hF := ab_neg c121 hF
  by_cases c142 : x6 = 9
  · have hF := ab_pos c142 hF
    refine ab_tab (tgt := 304) X dX1_reckoned_22 c142 (by decide) (by decide) rfl (by decide) ?_
    refine ab_aload_n X dX1_reckoned_304 rfl (lv_at hl 2 rfl) ?_
    refine ab_getR X S hF fi_1_4 lf_X1_25 dX1_reckoned_305 (fun x143 hF => ?_)
    refine ab_aload_n X dX1_reckoned_308 rfl (lv_at hl 2 rfl) ?_
    refine ab_getR X S hF fi_1_4 lf_X1_25 dX1_reckoned_309 (fun x144 hF => ?_)
    refine ab_aload_n X dX1_reckoned_312 rfl (lv_at hl 2 rfl) ?_
    refine ab_getR X S hF fi_1_13 lf_X1_51 dX1_reckoned_313 (fun x145 hF => ?_)
    refine lv_iload X.1 X.2.1 dX1_reckoned_316 (lv_at hl 1 rfl) ?_
    obtain ⟨a149, e150, hF⟩ := bind_out hF
    obtain ⟨x146, h147, e148, hF⟩ := bnd_out hF
    refine ab_callVd X S e150 (c_X2_read l D cA sz e148) rfl (by decide) mi_X2_read lm_X1_92 li_yX2_read ls_yX2_read (As := [va_rf x145, .int x2]) (rest := [va_rf x143]) rfl ⟨by decide, by decide⟩ ⟨(by decide), (by decide)⟩ hl.1 rfl (by simp [ab_cat, ab_cI, ab_cJ, ab_cD, ab_cF]) dX1_reckoned_318 (fun H1 locs1 S => ?_)
    refine ab_aload_n X dX1_reckoned_321 rfl (lv_at hl 2 rfl) ?_
    refine ab_getR X S hF fi_1_4 lf_X1_25 dX1_reckoned_322 (fun x151 hF => ?_)
    refine ab_aload_n X dX1_reckoned_325 rfl (lv_at hl 2 rfl) ?_
    refine ab_getR X S hF fi_1_13 lf_X1_51 dX1_reckoned_326 (fun x152 hF => ?_)
    refine lv_iload X.1 X.2.1 dX1_reckoned_329 (lv_at hl 0 rfl) ?_
    obtain ⟨a156, e157, hF⟩ := bind_out hF
    obtain ⟨x153, h154, e155, hF⟩ := bnd_out hF
    refine ab_callVd X S e157 (c_X2_read l D cA sz e155) rfl (by decide) mi_X2_read lm_X1_92 li_yX2_read ls_yX2_read (As := [va_rf x152, .int x4]) (rest := [.double x146, va_rf x143]) rfl ⟨by decide, by decide⟩ ⟨(by decide), (by decide)⟩ hl.1 rfl (by simp [ab_cat, ab_cI, ab_cJ, ab_cD, ab_cF]) dX1_reckoned_331 (fun H1 locs1 S => ?_)
    obtain ⟨a161, e162, hF⟩ := bind_out hF
    obtain ⟨x158, h159, e160, hF⟩ := bnd_out hF
    refine ab_callVd X S e162 (c_X2_greater l D cA sz e160) rfl (by decide) mi_X2_greater lm_X1_116 li_yX2_greater ls_yX2_greater (As := [.double x146, .double x153]) (rest := []) rfl ⟨by decide, by decide⟩ ⟨(by decide), (by decide)⟩ hl.1 rfl (by simp [ab_cat, ab_cI, ab_cJ, ab_cD, ab_cF]) dX1_reckoned_334 (fun H1 locs1 S => ?_)
    exact ab_dret X S hr hF dX1_reckoned_337
  have hF := ab_neg c142 hF
  by_cases c163 : x6 = 10
  · have hF := ab_pos c163 hF
    refine ab_tab (tgt := 338) X dX1_reckoned_22 c163 (by decide) (by decide) rfl (by decide) ?_
    refine ab_aload_n X dX1_reckoned_338 rfl (lv_at hl 2 rfl) ?_
    refine ab_getR X S hF fi_1_4 lf_X1_25 dX1_reckoned_339 (fun x164 hF => ?_)
    refine ab_aload_n X dX1_reckoned_342 rfl (lv_at hl 2 rfl) ?_
    refine ab_getR X S hF fi_1_13 lf_X1_51 dX1_reckoned_343 (fun x165 hF => ?_)
    refine ab_aload_n X dX1_reckoned_346 rfl (lv_at hl 2 rfl) ?_
    refine lv_iload X.1 X.2.1 dX1_reckoned_347 (lv_at hl 1 rfl) ?_
    obtain ⟨a169, e170, hF⟩ := bind_out hF
    obtain ⟨x166, h167, e168, hF⟩ := bnd_out hF
    refine ab_callVi X S e170 (c_X1_signOf l D cA sz e168) rfl (by decide) mi_X1_signOf lm_X1_119 li_yX1_signOf ls_yX1_signOf (As := [.int x2]) (rest := [va_rf x165, va_rf x164]) rfl ⟨by decide, by decide⟩ ⟨(by decide), (by decide)⟩ hl.1 rfl (by simp [ab_cat, ab_cI, ab_cJ, ab_cD, ab_cF]) dX1_reckoned_349 (fun H1 locs1 S => ?_)
    refine lv_iconst (v := (-1)) X.1 X.2.1 dX1_reckoned_352 (by decide) ?_
    refine lv_icmp_ne (tgt := 361) X.1 X.2.1 dX1_reckoned_353 (by decide) (fun c171 => ?_) (fun c171 => ?_)
    · have hF := ab_pos c171 hF
      refine ab_aload_n X dX1_reckoned_361 rfl (lv_at hl 2 rfl) ?_
      refine ab_getR X S hF fi_1_8 lf_X1_39 dX1_reckoned_362 (fun x172 hF => ?_)
      refine lv_iload_n X.1 X.2.1 dX1_reckoned_365 rfl (lv_at hl 3 rfl) ?_
      refine ab_aldI X S hF dX1_reckoned_366 (fun x173 hF => ?_)
      exact w_X1_reckoned_367 X hr  S (lv_sub hl [] rfl) hF
    · have hF := ab_neg (fun q => q c171) hF
      refine lv_iload X.1 X.2.1 dX1_reckoned_356 (lv_at hl 0 rfl) ?_
      refine lv_goto (tgt := 367) X.1 X.2.1 dX1_reckoned_358 (by decide) ?_
      exact w_X1_reckoned_367 X hr  S (lv_sub hl [] rfl) hF
  have hF := ab_neg c163 hF
  by_cases c174 : x6 = 11
  · have hF := ab_pos c174 hF
    refine ab_tab (tgt := 371) X dX1_reckoned_22 c174 (by decide) (by decide) rfl (by decide) ?_
    refine lv_iload X.1 X.2.1 dX1_reckoned_371 (lv_at hl 0 rfl) ?_
    refine lv_if_ne (tgt := 380) X.1 X.2.1 dX1_reckoned_373 (by decide) (fun c175 => ?_) (fun c175 => ?_)
    · have hF := ab_pos c175 hF
      refine ab_aload_n X dX1_reckoned_380 rfl (lv_at hl 2 rfl) ?_
      refine ab_getR X S hF fi_1_4 lf_X1_25 dX1_reckoned_381 (fun x176 hF => ?_)
      refine ab_aload_n X dX1_reckoned_384 rfl (lv_at hl 2 rfl) ?_
      refine ab_getR X S hF fi_1_4 lf_X1_25 dX1_reckoned_385 (fun x177 hF => ?_)
      refine ab_aload_n X dX1_reckoned_388 rfl (lv_at hl 2 rfl) ?_
      refine ab_getR X S hF fi_1_13 lf_X1_51 dX1_reckoned_389 (fun x178 hF => ?_)
      refine lv_iload X.1 X.2.1 dX1_reckoned_392 (lv_at hl 1 rfl) ?_
      obtain ⟨a182, e183, hF⟩ := bind_out hF
      obtain ⟨x179, h180, e181, hF⟩ := bnd_out hF
      refine ab_callVd X S e183 (c_X2_read l D cA sz e181) rfl (by decide) mi_X2_read lm_X1_92 li_yX2_read ls_yX2_read (As := [va_rf x178, .int x2]) (rest := [va_rf x176]) rfl ⟨by decide, by decide⟩ ⟨(by decide), (by decide)⟩ hl.1 rfl (by simp [ab_cat, ab_cI, ab_cJ, ab_cD, ab_cF]) dX1_reckoned_394 (fun H1 locs1 S => ?_)
      refine lv_iload X.1 X.2.1 dX1_reckoned_397 (lv_at hl 0 rfl) ?_
      obtain ⟨a187, e188, hF⟩ := bind_out hF
      obtain ⟨x184, h185, e186, hF⟩ := bnd_out hF
      refine ab_callVd X S e188 (c_X2_power l D cA sz e186) rfl (by decide) mi_X2_power lm_X1_123 li_yX2_power ls_yX2_power (As := [.double x179, .int x4]) (rest := []) rfl ⟨by decide, by decide⟩ ⟨(by decide), (by decide)⟩ hl.1 rfl (by simp [ab_cat, ab_cI, ab_cJ, ab_cD, ab_cF]) dX1_reckoned_399 (fun H1 locs1 S => ?_)
      exact w_X1_reckoned_402 X hr  S (lv_sub hl [] rfl) hF
    · have hF := ab_neg (fun q => q c175) hF
      refine lv_dconst1 X.1 X.2.1 dX1_reckoned_376 ?_
      refine lv_goto (tgt := 402) X.1 X.2.1 dX1_reckoned_377 (by decide) ?_
      exact w_X1_reckoned_402 X hr  S (lv_sub hl [] rfl) hF
  have hF := ab_neg c174 hF
  by_cases c189 : x6 = 12
  · have hF := ab_pos c189 hF
    refine ab_tab (tgt := 403) X dX1_reckoned_22 c189 (by decide) (by decide) rfl (by decide) ?_
    refine ab_aload_n X dX1_reckoned_403 rfl (lv_at hl 2 rfl) ?_
    refine ab_getR X S hF fi_1_3 lf_X1_21 dX1_reckoned_404 (fun x190 hF => ?_)
    refine lv_iload X.1 X.2.1 dX1_reckoned_407 (lv_at hl 0 rfl) ?_
    refine ab_aldR X S hF rfl (by decide) dX1_reckoned_409 (fun x191 hF => ?_)
    refine ab_astore (lv' := [(7, va_rf x191), (6, .int x4), (5, .int x2), (0, va_rf (some this)), (1, .int p0), (2, .double p1), (4, va_rf p2)]) X dX1_reckoned_410 hl (by decide) (by simp [ab_cat, ab_cI, ab_cJ, ab_cD, ab_cF]) (fun ls hl => ?_)
    refine ab_aload X dX1_reckoned_412 (lv_at hl 0 rfl) ?_
    refine ab_ifnull (tgt := 425) X dX1_reckoned_414 (by decide) (fun c192 => ?_) (fun c192 => ?_)
    · have hF := ab_pos c192 hF
      exact w_X1_reckoned_425 X hr  S (lv_sub hl [] rfl) hF
    · have hF := ab_neg c192 hF
      refine ab_aload X dX1_reckoned_417 (lv_at hl 0 rfl) ?_
      refine ab_getI X S hF fi_5_3 lf_X1_127 dX1_reckoned_419 (fun x193 hF => ?_)
      refine lv_if_ne (tgt := 429) X.1 X.2.1 dX1_reckoned_422 (by decide) (fun c194 => ?_) (fun c194 => ?_)
      · have hF := ab_pos c194 hF
        refine ab_aload X dX1_reckoned_429 (lv_at hl 0 rfl) ?_
        refine ab_aload_n X dX1_reckoned_431 rfl (lv_at hl 3 rfl) ?_
        refine ab_getR X S hF fi_1_4 lf_X1_25 dX1_reckoned_432 (fun x195 hF => ?_)
        refine ab_aload_n X dX1_reckoned_435 rfl (lv_at hl 3 rfl) ?_
        refine ab_getR X S hF fi_1_13 lf_X1_51 dX1_reckoned_436 (fun x196 hF => ?_)
        refine lv_iload X.1 X.2.1 dX1_reckoned_439 (lv_at hl 2 rfl) ?_
        obtain ⟨a200, e201, hF⟩ := bind_out hF
        obtain ⟨x197, h198, e199, hF⟩ := bnd_out hF
        refine ab_callVd X S e201 (c_X2_read l D cA sz e199) rfl (by decide) mi_X2_read lm_X1_92 li_yX2_read ls_yX2_read (As := [va_rf x196, .int x2]) (rest := [va_rf x191]) rfl ⟨by decide, by decide⟩ ⟨(by decide), (by decide)⟩ hl.1 rfl (by simp [ab_cat, ab_cI, ab_cJ, ab_cD, ab_cF]) dX1_reckoned_441 (fun H1 locs1 S => ?_)
        obtain ⟨a205, e206, hF⟩ := bind_out hF
        obtain ⟨x202, h203, e204, hF⟩ := bnd_out hF
        refine ab_callVd X S e206 (c_X5_heightAt l D cA sz e204) rfl (by decide) mi_X5_heightAt lm_X1_132 li_yX5_heightAt ls_yX5_heightAt (As := [.double x197]) (rest := []) rfl ⟨by decide, by decide⟩ ⟨(by decide), (by decide)⟩ hl.1 rfl (by simp [ab_cat, ab_cI, ab_cJ, ab_cD, ab_cF]) dX1_reckoned_444 (fun H1 locs1 S => ?_)
        exact w_X1_reckoned_447 X hr  S (lv_sub hl [] rfl) hF
      · have hF := ab_neg (fun q => q c194) hF
        exact w_X1_reckoned_425 X hr  S (lv_sub hl [] rfl) hF
  have hF := ab_neg c189 hF
  cases hF
