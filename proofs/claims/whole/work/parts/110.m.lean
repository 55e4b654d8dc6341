def f_X9_point_25   (h : Hp) : Option (Int32 × Hp) :=
  some ((-1), h)
set_option maxHeartbeats 4000000 in
set_option maxRecDepth 100000 in
theorem w_X9_point_25 {p : Program} {l : Launch} {e : Env} {s : State} {m : MethodId} {args : Array Value} {below : List Frame} {meth : Method} {c : Code} {D : va_G} {cA : Nat → ClassId} {sz : Nat} {rr : Int32} {hh : Hp}  (X : ab_X p s m args meth c cX9_point 10 RX9 D cA sz) (hr : meth.sig.returnType = (some .int))  {H : Heap} {locs : List Loc} {ls : Array Slot}  {h : Hp} (S : ab_H D cA sz h s H locs) (hl : lv_has ls 10 []) (hF : f_X9_point_25  h = some (rr, hh)) : W p l e (ab_rm 1 0 0) s m args below meth c H locs 0 0 (MQ below (ab_Q D cA sz (some (.int rr)) hh) args s 0 0 (fun q => sz ≤ q)) (F0 m 25 ls []) := by
  unfold f_X9_point_25 at hF
  refine lv_iconst (v := (-1)) X.1 X.2.1 dX9_point_25 (by decide) ?_
  exact ab_iret X S hr hF dX9_point_26
def f_X9_point_71  (v0 : Option Nat) (v1 : Int32) (v4 : Int64) (v6 : Int32) (v7 : Int32) (v8 : UInt64) (h : Hp) : Option (Int32 × Hp) :=
  if ¬ v7 = 16 then
    (getR h v0 9 12).bind fun x2 =>
    (astD h x2 ((16 * v1) + v7) v8).bind fun h3 =>
    (getR h3 v0 9 13).bind fun x4 =>
    bnd (f_X9_number v4 v6 h3) fun x5 h6 =>
    (astD h6 x4 ((16 * v1) + v7) x5).bind fun h8 =>
    (getR h8 v0 9 11).bind fun x9 =>
    (aldI h8 x9 11 v1).bind fun x10 =>
    (astI h8 x9 v1 (x10 + 1)).bind fun h11 =>
    some (v7, h11)
  else
    some ((-3), h)
set_option maxHeartbeats 4000000 in
set_option maxRecDepth 100000 in
theorem w_X9_point_71 {p : Program} {l : Launch} {e : Env} {s : State} {m : MethodId} {args : Array Value} {below : List Frame} {meth : Method} {c : Code} {D : va_G} {cA : Nat → ClassId} {sz : Nat} {rr : Int32} {hh : Hp}  (X : ab_X p s m args meth c cX9_point 10 RX9 D cA sz) (hr : meth.sig.returnType = (some .int))  {H : Heap} {locs : List Loc} {ls : Array Slot} {v0 : Option Nat} {v1 : Int32} {v4 : Int64} {v6 : Int32} {v7 : Int32} {v8 : UInt64} {h : Hp} (S : ab_H D cA sz h s H locs) (hl : lv_has ls 10 [(0, va_rf v0), (1, .int v1), (4, .long v4), (6, .int v6), (7, .int v7), (8, .double v8)]) (hF : f_X9_point_71 v0 v1 v4 v6 v7 v8 h = some (rr, hh)) : W p l e (ab_rm 1 0 0) s m args below meth c H locs 0 0 (MQ below (ab_Q D cA sz (some (.int rr)) hh) args s 0 0 (fun q => sz ≤ q)) (F0 m 71 ls []) := by
  unfold f_X9_point_71 at hF
  refine lv_iload X.1 X.2.1 dX9_point_71 (lv_at hl 4 rfl) ?_
  refine lv_bipush (v := 16) X.1 X.2.1 dX9_point_73 (by decide) ?_
  refine lv_icmp_ne (tgt := 81) X.1 X.2.1 dX9_point_75 (by decide) (fun c1 => ?_) (fun c1 => ?_)
  · have hF := ab_pos c1 hF
    refine ab_aload_n X dX9_point_81 rfl (lv_at hl 0 rfl) ?_
    refine ab_getR X S hF fi_9_12 lf_X9_46 dX9_point_82 (fun x2 hF => ?_)
    refine lv_bipush (v := 16) X.1 X.2.1 dX9_point_85 (by decide) ?_
    refine lv_iload_n X.1 X.2.1 dX9_point_87 rfl (lv_at hl 1 rfl) ?_
    refine lv_imul X.1 X.2.1 dX9_point_88 ?_
    refine lv_iload X.1 X.2.1 dX9_point_89 (lv_at hl 4 rfl) ?_
    refine lv_iadd X.1 X.2.1 dX9_point_91 ?_
    refine lv_dload X.1 X.2.1 dX9_point_92 (lv_at hl 5 rfl) ?_
    refine ab_astD X S hF dX9_point_94 (fun h3 H1 locs1 hF S => ?_)
    refine ab_aload_n X dX9_point_95 rfl (lv_at hl 0 rfl) ?_
    refine ab_getR X S hF fi_9_13 lf_X9_49 dX9_point_96 (fun x4 hF => ?_)
    refine lv_bipush (v := 16) X.1 X.2.1 dX9_point_99 (by decide) ?_
    refine lv_iload_n X.1 X.2.1 dX9_point_101 rfl (lv_at hl 1 rfl) ?_
    refine lv_imul X.1 X.2.1 dX9_point_102 ?_
    refine lv_iload X.1 X.2.1 dX9_point_103 (lv_at hl 4 rfl) ?_
    refine lv_iadd X.1 X.2.1 dX9_point_105 ?_
    refine lv_lload X.1 X.2.1 dX9_point_106 (lv_at hl 2 rfl) ?_
    refine lv_iload X.1 X.2.1 dX9_point_108 (lv_at hl 3 rfl) ?_
    obtain ⟨x5, h6, e7, hF⟩ := bnd_out hF
    refine ab_callSd X S (c_X9_number l D cA sz e7) mi_X9_number lm_X9_354 lt_yX9_number (As := [.long v4, .int v6]) (rest := [.int ((16 * v1) + v7), va_rf x4]) rfl ⟨by decide, by decide⟩ ⟨by decide, by decide⟩ hl.1 rfl (by simp [ab_cat, ab_cI, ab_cJ, ab_cD, ab_cF]) dX9_point_110 (fun H1 locs1 S => ?_)
    refine ab_astD X S hF dX9_point_113 (fun h8 H1 locs1 hF S => ?_)
    refine ab_aload_n X dX9_point_114 rfl (lv_at hl 0 rfl) ?_
    refine ab_getR X S hF fi_9_11 lf_X9_43 dX9_point_115 (fun x9 hF => ?_)
    refine lv_iload_n X.1 X.2.1 dX9_point_118 rfl (lv_at hl 1 rfl) ?_
    refine lv_dup2_11 X.1 X.2.1 dX9_point_119 (by simp [ab_cat, ab_cI, ab_cJ, ab_cD, ab_cF]) (by simp [ab_cat, ab_cI, ab_cJ, ab_cD, ab_cF]) ?_
    refine ab_aldI X S hF dX9_point_120 (fun x10 hF => ?_)
    refine lv_iconst (v := 1) X.1 X.2.1 dX9_point_121 (by decide) ?_
    refine lv_iadd X.1 X.2.1 dX9_point_122 ?_
    refine ab_astI X S hF dX9_point_123 (fun h11 H1 locs1 hF S => ?_)
    refine lv_iload X.1 X.2.1 dX9_point_124 (lv_at hl 4 rfl) ?_
    exact ab_iret X S hr hF dX9_point_126
  · have hF := ab_neg (fun q => q c1) hF
    refine lv_bipush (v := (-3)) X.1 X.2.1 dX9_point_78 (by decide) ?_
    exact ab_iret X S hr hF dX9_point_80
def f_X9_point (this : Nat) (p0 : Int32) (p1 : Int64) (p2 : Int64) (p3 : Int32) (h : Hp) : Option (Int32 × Hp) :=
  (getI h (some this) 9 14).bind fun x1 =>
  bnd (f_X9_in p0 0 (x1 - 1) h) fun x2 h3 =>
  if x2 = 0 then
    f_X9_point_25 h3
  else
    bnd (f_X9_in p3 0 30 h3) fun x6 h7 =>
    if ¬ x6 = 0 then
      (getR h7 (some this) 9 11).bind fun x10 =>
      (aldI h7 x10 11 p0).bind fun x11 =>
      bnd (f_X9_number p1 p3 h7) fun x12 h13 =>
      if x11 ≤ 0 then
        f_X9_point_71 (some this) p0 p2 p3 x11 x12 h13
      else
        (getR h13 (some this) 9 12).bind fun x16 =>
        (aldD h13 x16 (((16 * p0) + x11) - 1)).bind fun x17 =>
        if 0 < (Op.cmpValue (FP.dcmp x12 x17) CmpOp.g) then
          f_X9_point_71 (some this) p0 p2 p3 x11 x12 h13
        else
          some ((-2), h13)
    else
      f_X9_point_25 h7
theorem mi_X9_point : ab_MI yX9_point cX9_point 10 (some .int) 4 := ⟨lc_yX9_point, lz_RX9, by decide, by decide, by decide +kernel⟩
set_option maxHeartbeats 4000000 in
set_option maxRecDepth 100000 in
theorem c_X9_point (l : Launch) (D : va_G) (cA : Nat → ClassId) (sz : Nat) {this : Nat} {p0 : Int32} {p1 : Int64} {p2 : Int64} {p3 : Int32} {h hh : Hp} {rr : Int32} (hF : f_X9_point this p0 p1 p2 p3 h = some (rr, hh)) : ab_C l D cA sz yX9_point cX9_point 10 (some .int) 1 0 0 [.ref this, .int p0, .long p1, .long p2, .int p3] h (some (.int rr)) hh := by
  refine Met.ofW (cc := cX9_point) (maxL := 10) (ret := (some .int)) (by decide) rfl ?_
  intro p e s m args below meth c s₁ B hml hv
  obtain ⟨rfl, hT, hR⟩ := hv
  have X : ab_X p s m _ meth c cX9_point 10 RX9 D cA sz := (ab_enter B hml hT hR).1
  have S := (ab_enter B hml hT hR).2
  have hr := B.returns
  obtain ⟨ls, hls, hl⟩ := ab_entry m [.ref this, .int p0, .long p1, .long p2, .int p3] 10 (lv := [(0, .ref this), (1, .int p0), (2, .long p1), (4, .long p2), (6, .int p3)]) (by simp [lg_sl, ab_cat, ab_cI, ab_cJ, ab_cD, ab_cF, ab_cA]) (by simp [lv_args, ab_cat, ab_cI, ab_cJ, ab_cD, ab_cF, ab_cA])
  rw [hls]
  have hl : lv_has ls 10 [(0, va_rf (some this)), (1, .int p0), (2, .long p1), (4, .long p2), (6, .int p3)] := hl
  unfold f_X9_point at hF
  show W p l e (ab_rm 1 0 0) s m _ below meth c s.heap [] 0 0 _ _
  refine lv_iload_n X.1 X.2.1 dX9_point_0 rfl (lv_at hl 1 rfl) ?_
  refine lv_iconst (v := 0) X.1 X.2.1 dX9_point_1 (by decide) ?_
  refine ab_aload_n X dX9_point_2 rfl (lv_at hl 0 rfl) ?_
  refine ab_getI X S hF fi_9_14 lf_X9_358 dX9_point_3 (fun x1 hF => ?_)
  refine lv_iconst (v := 1) X.1 X.2.1 dX9_point_6 (by decide) ?_
  refine lv_isub X.1 X.2.1 dX9_point_7 ?_
  obtain ⟨x2, h3, e4, hF⟩ := bnd_out hF
  refine ab_callSi X S (c_X9_in l D cA sz e4) mi_X9_in lm_X9_343 lt_yX9_in (As := [.int p0, .int 0, .int (x1 - 1)]) (rest := []) rfl ⟨by decide, by decide⟩ ⟨by decide, by decide⟩ hl.1 rfl (by simp [ab_cat, ab_cI, ab_cJ, ab_cD, ab_cF]) dX9_point_8 (fun H1 locs1 S => ?_)
  refine lv_if_eq (tgt := 25) X.1 X.2.1 dX9_point_11 (by decide) (fun c5 => ?_) (fun c5 => ?_)
  · have hF := ab_pos c5 hF
    exact w_X9_point_25 X hr  S (lv_sub hl [] rfl) hF
  · have hF := ab_neg c5 hF
    refine lv_iload X.1 X.2.1 dX9_point_14 (lv_at hl 4 rfl) ?_
    refine lv_iconst (v := 0) X.1 X.2.1 dX9_point_16 (by decide) ?_
    refine lv_bipush (v := 30) X.1 X.2.1 dX9_point_17 (by decide) ?_
    obtain ⟨x6, h7, e8, hF⟩ := bnd_out hF
    refine ab_callSi X S (c_X9_in l D cA sz e8) mi_X9_in lm_X9_343 lt_yX9_in (As := [.int p3, .int 0, .int 30]) (rest := []) rfl ⟨by decide, by decide⟩ ⟨by decide, by decide⟩ hl.1 rfl (by simp [ab_cat, ab_cI, ab_cJ, ab_cD, ab_cF]) dX9_point_19 (fun H1 locs1 S => ?_)
    refine lv_if_ne (tgt := 27) X.1 X.2.1 dX9_point_22 (by decide) (fun c9 => ?_) (fun c9 => ?_)
    · have hF := ab_pos c9 hF
      refine ab_aload_n X dX9_point_27 rfl (lv_at hl 0 rfl) ?_
      refine ab_getR X S hF fi_9_11 lf_X9_43 dX9_point_28 (fun x10 hF => ?_)
      refine lv_iload_n X.1 X.2.1 dX9_point_31 rfl (lv_at hl 1 rfl) ?_
      refine ab_aldI X S hF dX9_point_32 (fun x11 hF => ?_)
      refine lv_istore (lv' := [(7, .int x11), (0, va_rf (some this)), (1, .int p0), (2, .long p1), (4, .long p2), (6, .int p3)]) X.1 X.2.1 dX9_point_33 hl (by decide) (by simp [ab_cat, ab_cI, ab_cJ, ab_cD, ab_cF]) (fun ls hl => ?_)
      refine lv_lload_n X.1 X.2.1 dX9_point_35 rfl (lv_at hl 3 rfl) ?_
      refine lv_iload X.1 X.2.1 dX9_point_36 (lv_at hl 5 rfl) ?_
      obtain ⟨x12, h13, e14, hF⟩ := bnd_out hF
      refine ab_callSd X S (c_X9_number l D cA sz e14) mi_X9_number lm_X9_354 lt_yX9_number (As := [.long p1, .int p3]) (rest := []) rfl ⟨by decide, by decide⟩ ⟨by decide, by decide⟩ hl.1 rfl (by simp [ab_cat, ab_cI, ab_cJ, ab_cD, ab_cF]) dX9_point_38 (fun H1 locs1 S => ?_)
      refine lv_dstore (lv' := [(8, .double x12), (7, .int x11), (0, va_rf (some this)), (1, .int p0), (2, .long p1), (4, .long p2), (6, .int p3)]) X.1 X.2.1 dX9_point_41 hl (by decide) (by simp [ab_cat, ab_cI, ab_cJ, ab_cD, ab_cF]) (fun ls hl => ?_)
      refine lv_iload X.1 X.2.1 dX9_point_43 (lv_at hl 1 rfl) ?_
      refine lv_if_le (tgt := 71) X.1 X.2.1 dX9_point_45 (by decide) (fun c15 => ?_) (fun c15 => ?_)
      · have hF := ab_pos c15 hF
        exact w_X9_point_71 X hr  S (lv_sub hl [2, 3, 5, 6, 1, 0] rfl) hF
      · have hF := ab_neg c15 hF
        refine lv_dload X.1 X.2.1 dX9_point_48 (lv_at hl 0 rfl) ?_
        refine ab_aload_n X dX9_point_50 rfl (lv_at hl 2 rfl) ?_
        refine ab_getR X S hF fi_9_12 lf_X9_46 dX9_point_51 (fun x16 hF => ?_)
        refine lv_bipush (v := 16) X.1 X.2.1 dX9_point_54 (by decide) ?_
        refine lv_iload_n X.1 X.2.1 dX9_point_56 rfl (lv_at hl 3 rfl) ?_
        refine lv_imul X.1 X.2.1 dX9_point_57 ?_
        refine lv_iload X.1 X.2.1 dX9_point_58 (lv_at hl 1 rfl) ?_
        refine lv_iadd X.1 X.2.1 dX9_point_60 ?_
        refine lv_iconst (v := 1) X.1 X.2.1 dX9_point_61 (by decide) ?_
        refine lv_isub X.1 X.2.1 dX9_point_62 ?_
        refine ab_aldD X S hF dX9_point_63 (fun x17 hF => ?_)
        refine lv_dcmp X.1 X.2.1 dX9_point_64 ?_
        refine lv_if_gt (tgt := 71) X.1 X.2.1 dX9_point_65 (by decide) (fun c18 => ?_) (fun c18 => ?_)
        · have hF := ab_pos c18 hF
          exact w_X9_point_71 X hr  S (lv_sub hl [2, 3, 5, 6, 1, 0] rfl) hF
        · have hF := ab_neg c18 hF
          refine lv_bipush (v := (-2)) X.1 X.2.1 dX9_point_68 (by decide) ?_
          exact ab_iret X S hr hF dX9_point_70
    · have hF := ab_neg (fun q => q c9) hF
      exact w_X9_point_25 X hr  S (lv_sub hl [] rfl) hF
def f_X9_many_69  (u0 : Int32) (h : Hp) : Option (Int32 × Hp) :=
  some (u0, h)
set_option maxHeartbeats 4000000 in
set_option maxRecDepth 100000 in
theorem w_X9_many_69 {p : Program} {l : Launch} {e : Env} {s : State} {m : MethodId} {args : Array Value} {below : List Frame} {meth : Method} {c : Code} {D : va_G} {cA : Nat → ClassId} {sz : Nat} {rr : Int32} {hh : Hp}  (X : ab_X p s m args meth c cX9_many 2 RX9 D cA sz) (hr : meth.sig.returnType = (some .int))  {H : Heap} {locs : List Loc} {ls : Array Slot} {u0 : Int32} {h : Hp} (S : ab_H D cA sz h s H locs) (hl : lv_has ls 2 []) (hF : f_X9_many_69 u0 h = some (rr, hh)) : W p l e (ab_rm 1 0 0) s m args below meth c H locs 0 0 (MQ below (ab_Q D cA sz (some (.int rr)) hh) args s 0 0 (fun q => sz ≤ q)) (F0 m 69 ls [.int u0]) := by
  unfold f_X9_many_69 at hF
  exact ab_iret X S hr hF dX9_many_69
def f_X9_many (this : Nat) (p0 : Int32) (h : Hp) : Option (Int32 × Hp) :=
  bnd (f_X9_in p0 0 10 h) fun x1 h2 =>
  if ¬ x1 = 0 then
    if ¬ p0 = 0 then
      if ¬ p0 = 1 then
        if ¬ p0 = 2 then
          (getI h2 (some this) 9 9).bind fun x8 =>
          if x8 ≤ (p0 - 3) then
            f_X9_many_69 0 h2
          else
            (getR h2 (some this) 9 2).bind fun x10 =>
            (aldI h2 x10 11 (p0 - 3)).bind fun x11 =>
            f_X9_many_69 x11 h2
        else
          (getI h2 (some this) 9 45).bind fun x12 =>
          f_X9_many_69 x12 h2
      else
        (getI h2 (some this) 9 14).bind fun x13 =>
        f_X9_many_69 x13 h2
    else
      (getI h2 (some this) 9 9).bind fun x14 =>
      f_X9_many_69 x14 h2
  else
    some ((-1), h2)
theorem mi_X9_many : ab_MI yX9_many cX9_many 2 (some .int) 1 := ⟨lc_yX9_many, lz_RX9, by decide, by decide, by decide +kernel⟩
set_option maxHeartbeats 4000000 in
set_option maxRecDepth 100000 in
theorem c_X9_many (l : Launch) (D : va_G) (cA : Nat → ClassId) (sz : Nat) {this : Nat} {p0 : Int32} {h hh : Hp} {rr : Int32} (hF : f_X9_many this p0 h = some (rr, hh)) : ab_C l D cA sz yX9_many cX9_many 2 (some .int) 1 0 0 [.ref this, .int p0] h (some (.int rr)) hh := by
  refine Met.ofW (cc := cX9_many) (maxL := 2) (ret := (some .int)) (by decide) rfl ?_
  intro p e s m args below meth c s₁ B hml hv
  obtain ⟨rfl, hT, hR⟩ := hv
  have X : ab_X p s m _ meth c cX9_many 2 RX9 D cA sz := (ab_enter B hml hT hR).1
  have S := (ab_enter B hml hT hR).2
  have hr := B.returns
  obtain ⟨ls, hls, hl⟩ := ab_entry m [.ref this, .int p0] 2 (lv := [(0, .ref this), (1, .int p0)]) (by simp [lg_sl, ab_cat, ab_cI, ab_cJ, ab_cD, ab_cF, ab_cA]) (by simp [lv_args, ab_cat, ab_cI, ab_cJ, ab_cD, ab_cF, ab_cA])
  rw [hls]
  have hl : lv_has ls 2 [(0, va_rf (some this)), (1, .int p0)] := hl
  unfold f_X9_many at hF
  show W p l e (ab_rm 1 0 0) s m _ below meth c s.heap [] 0 0 _ _
  refine lv_iload_n X.1 X.2.1 dX9_many_0 rfl (lv_at hl 1 rfl) ?_
  refine lv_iconst (v := 0) X.1 X.2.1 dX9_many_1 (by decide) ?_
  refine lv_bipush (v := 10) X.1 X.2.1 dX9_many_2 (by decide) ?_
  obtain ⟨x1, h2, e3, hF⟩ := bnd_out hF
  refine ab_callSi X S (c_X9_in l D cA sz e3) mi_X9_in lm_X9_343 lt_yX9_in (As := [.int p0, .int 0, .int 10]) (rest := []) rfl ⟨by decide, by decide⟩ ⟨by decide, by decide⟩ hl.1 rfl (by simp [ab_cat, ab_cI, ab_cJ, ab_cD, ab_cF]) dX9_many_4 (fun H1 locs1 S => ?_)
  refine lv_if_ne (tgt := 12) X.1 X.2.1 dX9_many_7 (by decide) (fun c4 => ?_) (fun c4 => ?_)
  · have hF := ab_pos c4 hF
    refine lv_iload_n X.1 X.2.1 dX9_many_12 rfl (lv_at hl 1 rfl) ?_
    refine lv_if_ne (tgt := 23) X.1 X.2.1 dX9_many_13 (by decide) (fun c5 => ?_) (fun c5 => ?_)
    · have hF := ab_pos c5 hF
      refine lv_iload_n X.1 X.2.1 dX9_many_23 rfl (lv_at hl 1 rfl) ?_
      refine lv_iconst (v := 1) X.1 X.2.1 dX9_many_24 (by decide) ?_
      refine lv_icmp_ne (tgt := 35) X.1 X.2.1 dX9_many_25 (by decide) (fun c6 => ?_) (fun c6 => ?_)
      · have hF := ab_pos c6 hF
        refine lv_iload_n X.1 X.2.1 dX9_many_35 rfl (lv_at hl 1 rfl) ?_
        refine lv_iconst (v := 2) X.1 X.2.1 dX9_many_36 (by decide) ?_
        refine lv_icmp_ne (tgt := 47) X.1 X.2.1 dX9_many_37 (by decide) (fun c7 => ?_) (fun c7 => ?_)
        · have hF := ab_pos c7 hF
          refine lv_iload_n X.1 X.2.1 dX9_many_47 rfl (lv_at hl 1 rfl) ?_
          refine lv_iconst (v := 3) X.1 X.2.1 dX9_many_48 (by decide) ?_
          refine lv_isub X.1 X.2.1 dX9_many_49 ?_
          refine ab_aload_n X dX9_many_50 rfl (lv_at hl 0 rfl) ?_
          refine ab_getI X S hF fi_9_9 lf_X9_347 dX9_many_51 (fun x8 hF => ?_)
          refine lv_icmp_ge (tgt := 68) X.1 X.2.1 dX9_many_54 (by decide) (fun c9 => ?_) (fun c9 => ?_)
          · have hF := ab_pos c9 hF
            refine lv_iconst (v := 0) X.1 X.2.1 dX9_many_68 (by decide) ?_
            exact w_X9_many_69 X hr  S (lv_sub hl [] rfl) hF
          · have hF := ab_neg c9 hF
            refine ab_aload_n X dX9_many_57 rfl (lv_at hl 0 rfl) ?_
            refine ab_getR X S hF fi_9_2 lf_X9_18 dX9_many_58 (fun x10 hF => ?_)
            refine lv_iload_n X.1 X.2.1 dX9_many_61 rfl (lv_at hl 1 rfl) ?_
            refine lv_iconst (v := 3) X.1 X.2.1 dX9_many_62 (by decide) ?_
            refine lv_isub X.1 X.2.1 dX9_many_63 ?_
            refine ab_aldI X S hF dX9_many_64 (fun x11 hF => ?_)
            refine lv_goto (tgt := 69) X.1 X.2.1 dX9_many_65 (by decide) ?_
            exact w_X9_many_69 X hr  S (lv_sub hl [] rfl) hF
        · have hF := ab_neg (fun q => q c7) hF
          refine ab_aload_n X dX9_many_40 rfl (lv_at hl 0 rfl) ?_
          refine ab_getI X S hF fi_9_45 lf_X9_361 dX9_many_41 (fun x12 hF => ?_)
          refine lv_goto (tgt := 69) X.1 X.2.1 dX9_many_44 (by decide) ?_
          exact w_X9_many_69 X hr  S (lv_sub hl [] rfl) hF
      · have hF := ab_neg (fun q => q c6) hF
        refine ab_aload_n X dX9_many_28 rfl (lv_at hl 0 rfl) ?_
        refine ab_getI X S hF fi_9_14 lf_X9_358 dX9_many_29 (fun x13 hF => ?_)
        refine lv_goto (tgt := 69) X.1 X.2.1 dX9_many_32 (by decide) ?_
        exact w_X9_many_69 X hr  S (lv_sub hl [] rfl) hF
    · have hF := ab_neg (fun q => q c5) hF
      refine ab_aload_n X dX9_many_16 rfl (lv_at hl 0 rfl) ?_
      refine ab_getI X S hF fi_9_9 lf_X9_347 dX9_many_17 (fun x14 hF => ?_)
      refine lv_goto (tgt := 69) X.1 X.2.1 dX9_many_20 (by decide) ?_
      exact w_X9_many_69 X hr  S (lv_sub hl [] rfl) hF
  · have hF := ab_neg (fun q => q c4) hF
    refine lv_iconst (v := (-1)) X.1 X.2.1 dX9_many_10 (by decide) ?_
    exact ab_iret X S hr hF dX9_many_11
def f_X9_isRun (this : Nat) (p0 : Int32) (h : Hp) : Option (Int32 × Hp) :=
  (getI h (some this) 9 45).bind fun x1 =>
  bnd (f_X9_in p0 0 (x1 - 1) h) fun x2 h3 =>
  if x2 = 0 ∨ x2 = 1 then some (x2, h3) else none
theorem mi_X9_isRun : ab_MI yX9_isRun cX9_isRun 2 (some .boolean) 1 := ⟨lc_yX9_isRun, lz_RX9, by decide, by decide, by decide +kernel⟩
set_option maxHeartbeats 4000000 in
set_option maxRecDepth 100000 in
theorem c_X9_isRun (l : Launch) (D : va_G) (cA : Nat → ClassId) (sz : Nat) {this : Nat} {p0 : Int32} {h hh : Hp} {rr : Int32} (hF : f_X9_isRun this p0 h = some (rr, hh)) : ab_C l D cA sz yX9_isRun cX9_isRun 2 (some .boolean) 1 0 0 [.ref this, .int p0] h (some (.int rr)) hh := by
  refine Met.ofW (cc := cX9_isRun) (maxL := 2) (ret := (some .boolean)) (by decide) rfl ?_
  intro p e s m args below meth c s₁ B hml hv
  obtain ⟨rfl, hT, hR⟩ := hv
  have X : ab_X p s m _ meth c cX9_isRun 2 RX9 D cA sz := (ab_enter B hml hT hR).1
  have S := (ab_enter B hml hT hR).2
  have hr := B.returns
  obtain ⟨ls, hls, hl⟩ := ab_entry m [.ref this, .int p0] 2 (lv := [(0, .ref this), (1, .int p0)]) (by simp [lg_sl, ab_cat, ab_cI, ab_cJ, ab_cD, ab_cF, ab_cA]) (by simp [lv_args, ab_cat, ab_cI, ab_cJ, ab_cD, ab_cF, ab_cA])
  rw [hls]
  have hl : lv_has ls 2 [(0, va_rf (some this)), (1, .int p0)] := hl
  unfold f_X9_isRun at hF
  show W p l e (ab_rm 1 0 0) s m _ below meth c s.heap [] 0 0 _ _
  refine lv_iload_n X.1 X.2.1 dX9_isRun_0 rfl (lv_at hl 1 rfl) ?_
  refine lv_iconst (v := 0) X.1 X.2.1 dX9_isRun_1 (by decide) ?_
  refine ab_aload_n X dX9_isRun_2 rfl (lv_at hl 0 rfl) ?_
  refine ab_getI X S hF fi_9_45 lf_X9_361 dX9_isRun_3 (fun x1 hF => ?_)
  refine lv_iconst (v := 1) X.1 X.2.1 dX9_isRun_6 (by decide) ?_
  refine lv_isub X.1 X.2.1 dX9_isRun_7 ?_
  obtain ⟨x2, h3, e4, hF⟩ := bnd_out hF
  refine ab_callSi X S (c_X9_in l D cA sz e4) mi_X9_in lm_X9_343 lt_yX9_in (As := [.int p0, .int 0, .int (x1 - 1)]) (rest := []) rfl ⟨by decide, by decide⟩ ⟨by decide, by decide⟩ hl.1 rfl (by simp [ab_cat, ab_cI, ab_cJ, ab_cD, ab_cF]) dX9_isRun_8 (fun H1 locs1 S => ?_)
  exact ab_zret X S hr hF dX9_isRun_11
def f_X9_run_25   (h : Hp) : Option (Int32 × Hp) :=
  some ((-1), h)
set_option maxHeartbeats 4000000 in
set_option maxRecDepth 100000 in
theorem w_X9_run_25 {p : Program} {l : Launch} {e : Env} {s : State} {m : MethodId} {args : Array Value} {below : List Frame} {meth : Method} {c : Code} {D : va_G} {cA : Nat → ClassId} {sz : Nat} {rr : Int32} {hh : Hp}  (X : ab_X p s m args meth c cX9_run 6 RX9 D cA sz) (hr : meth.sig.returnType = (some .int))  {H : Heap} {locs : List Loc} {ls : Array Slot}  {h : Hp} (S : ab_H D cA sz h s H locs) (hl : lv_has ls 6 []) (hF : f_X9_run_25  h = some (rr, hh)) : W p l e (ab_rm 1 0 0) s m args below meth c H locs 0 0 (MQ below (ab_Q D cA sz (some (.int rr)) hh) args s 0 0 (fun q => sz ≤ q)) (F0 m 25 ls []) := by
  unfold f_X9_run_25 at hF
  refine lv_iconst (v := (-1)) X.1 X.2.1 dX9_run_25 (by decide) ?_
  exact ab_iret X S hr hF dX9_run_26
def f_X9_run_30  : Nat → Option Nat → Int32 → Int64 → Int32 → Int32 → Hp → Option (Int32 × Hp)
  | 0, _, _, _, _, _, _ => none
  | n + 1, v0, v1, v2, v4, v5, h => (getR h v0 9 0).bind fun x1 =>
    (aldI h x1 11 v1).bind fun x2 =>
    if x2 ≤ v5 then
      (getI h v0 9 45).bind fun x4 =>
      if ¬ x4 = 4 then
        (getR h v0 9 15).bind fun x6 =>
        (getI h v0 9 45).bind fun x7 =>
        (astI h x6 x7 v1).bind fun h8 =>
        (getR h8 v0 9 25).bind fun x9 =>
        (getI h8 v0 9 45).bind fun x10 =>
        bnd (f_X9_number v2 v4 h8) fun x11 h12 =>
        (astD h12 x9 x10 x11).bind fun h14 =>
        (getR h14 v0 9 26).bind fun x15 =>
        (getI h14 v0 9 45).bind fun x16 =>
        (astD h14 x15 x16 4593671619917905920).bind fun h17 =>
        (getR h17 v0 9 27).bind fun x18 =>
        (getI h17 v0 9 45).bind fun x19 =>
        (astD h17 x18 x19 4517110426252607488).bind fun h20 =>
        (getI h20 v0 9 45).bind fun x21 =>
        (putI h20 v0 9 45 (x21 + 1)).bind fun h22 =>
        (getI h22 v0 9 45).bind fun x23 =>
        some (x23 - 1, h22)
      else
        some ((-3), h)
    else
      (getR h v0 9 3).bind fun x24 =>
      (aldI h x24 11 ((6 * v1) + v5)).bind fun x25 =>
      if 0 ≤ x25 then
        f_X9_run_30 n v0 v1 v2 v4 (v5 + 1) h
      else
        some ((-2), h)
set_option maxHeartbeats 4000000 in
set_option maxRecDepth 100000 in
theorem w_X9_run_30 {p : Program} {l : Launch} {e : Env} {s : State} {m : MethodId} {args : Array Value} {below : List Frame} {meth : Method} {c : Code} {D : va_G} {cA : Nat → ClassId} {sz : Nat} {rr : Int32} {hh : Hp}  (X : ab_X p s m args meth c cX9_run 6 RX9 D cA sz) (hr : meth.sig.returnType = (some .int))  (n : Nat) : ∀ (v0 : Option Nat) (v1 : Int32) (v2 : Int64) (v4 : Int32) (v5 : Int32) (h : Hp) (H : Heap) (locs : List Loc) (ls : Array Slot), ab_H D cA sz h s H locs → lv_has ls 6 [(0, va_rf v0), (1, .int v1), (2, .long v2), (4, .int v4), (5, .int v5)] → f_X9_run_30 n v0 v1 v2 v4 v5 h = some (rr, hh) → W p l e (ab_rm 1 0 0) s m args below meth c H locs 0 0 (MQ below (ab_Q D cA sz (some (.int rr)) hh) args s 0 0 (fun q => sz ≤ q)) (F0 m 30 ls []) := by
  induction n with
  | zero => intro v0 v1 v2 v4 v5 h H locs ls S hl hF; cases hF
  | succ n ih =>
    intro v0 v1 v2 v4 v5 h H locs ls S hl hF
    rw [f_X9_run_30] at hF
    refine lv_iload X.1 X.2.1 dX9_run_30 (lv_at hl 4 rfl) ?_
    refine ab_aload_n X dX9_run_32 rfl (lv_at hl 0 rfl) ?_
    refine ab_getR X S hF fi_9_0 lf_X9_9 dX9_run_33 (fun x1 hF => ?_)
    refine lv_iload_n X.1 X.2.1 dX9_run_36 rfl (lv_at hl 1 rfl) ?_
    refine ab_aldI X S hF dX9_run_37 (fun x2 hF => ?_)
    refine lv_icmp_ge (tgt := 65) X.1 X.2.1 dX9_run_38 (by decide) (fun c3 => ?_) (fun c3 => ?_)
    · have hF := ab_pos c3 hF
      refine ab_aload_n X dX9_run_65 rfl (lv_at hl 0 rfl) ?_
      refine ab_getI X S hF fi_9_45 lf_X9_361 dX9_run_66 (fun x4 hF => ?_)
      refine lv_iconst (v := 4) X.1 X.2.1 dX9_run_69 (by decide) ?_
      refine lv_icmp_ne (tgt := 76) X.1 X.2.1 dX9_run_70 (by decide) (fun c5 => ?_) (fun c5 => ?_)
      · have hF := ab_pos c5 hF
        refine ab_aload_n X dX9_run_76 rfl (lv_at hl 0 rfl) ?_
        refine ab_getR X S hF fi_9_15 lf_X9_52 dX9_run_77 (fun x6 hF => ?_)
        refine ab_aload_n X dX9_run_80 rfl (lv_at hl 0 rfl) ?_
        refine ab_getI X S hF fi_9_45 lf_X9_361 dX9_run_81 (fun x7 hF => ?_)
        refine lv_iload_n X.1 X.2.1 dX9_run_84 rfl (lv_at hl 1 rfl) ?_
        refine ab_astI X S hF dX9_run_85 (fun h8 H1 locs1 hF S => ?_)
        refine ab_aload_n X dX9_run_86 rfl (lv_at hl 0 rfl) ?_
        refine ab_getR X S hF fi_9_25 lf_X9_83 dX9_run_87 (fun x9 hF => ?_)
        refine ab_aload_n X dX9_run_90 rfl (lv_at hl 0 rfl) ?_
        refine ab_getI X S hF fi_9_45 lf_X9_361 dX9_run_91 (fun x10 hF => ?_)
        refine lv_lload_n X.1 X.2.1 dX9_run_94 rfl (lv_at hl 2 rfl) ?_
        refine lv_iload X.1 X.2.1 dX9_run_95 (lv_at hl 3 rfl) ?_
        obtain ⟨x11, h12, e13, hF⟩ := bnd_out hF
        refine ab_callSd X S (c_X9_number l D cA sz e13) mi_X9_number lm_X9_354 lt_yX9_number (As := [.long v2, .int v4]) (rest := [.int x10, va_rf x9]) rfl ⟨by decide, by decide⟩ ⟨by decide, by decide⟩ hl.1 rfl (by simp [ab_cat, ab_cI, ab_cJ, ab_cD, ab_cF]) dX9_run_97 (fun H1 locs1 S => ?_)
        refine ab_astD X S hF dX9_run_100 (fun h14 H1 locs1 hF S => ?_)
        refine ab_aload_n X dX9_run_101 rfl (lv_at hl 0 rfl) ?_
        refine ab_getR X S hF fi_9_26 lf_X9_86 dX9_run_102 (fun x15 hF => ?_)
        refine ab_aload_n X dX9_run_105 rfl (lv_at hl 0 rfl) ?_
        refine ab_getI X S hF fi_9_45 lf_X9_361 dX9_run_106 (fun x16 hF => ?_)
        refine lv_ldc2d (v := 4593671619917905920) X.1 X.2.1 X.2.2.2.1 (X.2.2.2.2.1 _ ld_X9_324) dX9_run_109 ?_
        refine ab_astD X S hF dX9_run_112 (fun h17 H1 locs1 hF S => ?_)
        refine ab_aload_n X dX9_run_113 rfl (lv_at hl 0 rfl) ?_
        refine ab_getR X S hF fi_9_27 lf_X9_89 dX9_run_114 (fun x18 hF => ?_)
        refine ab_aload_n X dX9_run_117 rfl (lv_at hl 0 rfl) ?_
        refine ab_getI X S hF fi_9_45 lf_X9_361 dX9_run_118 (fun x19 hF => ?_)
        refine lv_ldc2d (v := 4517110426252607488) X.1 X.2.1 X.2.2.2.1 (X.2.2.2.2.1 _ ld_X9_364) dX9_run_121 ?_
        refine ab_astD X S hF dX9_run_124 (fun h20 H1 locs1 hF S => ?_)
        refine ab_aload_n X dX9_run_125 rfl (lv_at hl 0 rfl) ?_
        refine lv_dup X.1 X.2.1 dX9_run_126 (by simp [ab_cat, ab_cI, ab_cJ, ab_cD, ab_cF]) ?_
        refine ab_getI X S hF fi_9_45 lf_X9_361 dX9_run_127 (fun x21 hF => ?_)
        refine lv_iconst (v := 1) X.1 X.2.1 dX9_run_130 (by decide) ?_
        refine lv_iadd X.1 X.2.1 dX9_run_131 ?_
        refine ab_putI X S hF fi_9_45 ci_9 (Or.inl rfl) rfl lf_X9_361 dX9_run_132 (fun h22 H1 locs1 hF S => ?_)
        refine ab_aload_n X dX9_run_135 rfl (lv_at hl 0 rfl) ?_
        refine ab_getI X S hF fi_9_45 lf_X9_361 dX9_run_136 (fun x23 hF => ?_)
        refine lv_iconst (v := 1) X.1 X.2.1 dX9_run_139 (by decide) ?_
        refine lv_isub X.1 X.2.1 dX9_run_140 ?_
        exact ab_iret X S hr hF dX9_run_141
      · have hF := ab_neg (fun q => q c5) hF
        refine lv_bipush (v := (-3)) X.1 X.2.1 dX9_run_73 (by decide) ?_
        exact ab_iret X S hr hF dX9_run_75
    · have hF := ab_neg c3 hF
      refine ab_aload_n X dX9_run_41 rfl (lv_at hl 0 rfl) ?_
      refine ab_getR X S hF fi_9_3 lf_X9_21 dX9_run_42 (fun x24 hF => ?_)
      refine lv_bipush (v := 6) X.1 X.2.1 dX9_run_45 (by decide) ?_
      refine lv_iload_n X.1 X.2.1 dX9_run_47 rfl (lv_at hl 1 rfl) ?_
      refine lv_imul X.1 X.2.1 dX9_run_48 ?_
      refine lv_iload X.1 X.2.1 dX9_run_49 (lv_at hl 4 rfl) ?_
      refine lv_iadd X.1 X.2.1 dX9_run_51 ?_
      refine ab_aldI X S hF dX9_run_52 (fun x25 hF => ?_)
      refine lv_if_ge (tgt := 59) X.1 X.2.1 dX9_run_53 (by decide) (fun c26 => ?_) (fun c26 => ?_)
      · have hF := ab_pos c26 hF
        refine lv_iinc (v := v5 + 1) (lv' := [(5, .int (v5 + 1)), (0, va_rf v0), (1, .int v1), (2, .long v2), (4, .int v4)]) X.1 X.2.1 dX9_run_59 hl (k := 4) rfl (by rfl) (by decide) (by simp [ab_cat, ab_cI, ab_cJ, ab_cD, ab_cF]) (fun ls hl => ?_)
        refine lv_goto (tgt := 30) X.1 X.2.1 dX9_run_62 (by decide) ?_
        exact ih _ _ _ _ _ _ _ _ _ S (lv_sub hl [1, 2, 3, 4, 0] rfl) hF
      · have hF := ab_neg c26 hF
        refine lv_bipush (v := (-2)) X.1 X.2.1 dX9_run_56 (by decide) ?_
        exact ab_iret X S hr hF dX9_run_58
def f_X9_run (this : Nat) (p0 : Int32) (p1 : Int64) (p2 : Int32) (h : Hp) : Option (Int32 × Hp) :=
  (getI h (some this) 9 9).bind fun x1 =>
  bnd (f_X9_in p0 0 (x1 - 1) h) fun x2 h3 =>
  if x2 = 0 then
    f_X9_run_25 h3
  else
    bnd (f_X9_in p2 0 30 h3) fun x6 h7 =>
    if ¬ x6 = 0 then
      f_X9_run_30 fuelN (some this) p0 p1 p2 0 h7
    else
      f_X9_run_25 h7
theorem mi_X9_run : ab_MI yX9_run cX9_run 6 (some .int) 3 := ⟨lc_yX9_run, lz_RX9, by decide, by decide, by decide +kernel⟩
set_option maxHeartbeats 4000000 in
set_option maxRecDepth 100000 in
theorem c_X9_run (l : Launch) (D : va_G) (cA : Nat → ClassId) (sz : Nat) {this : Nat} {p0 : Int32} {p1 : Int64} {p2 : Int32} {h hh : Hp} {rr : Int32} (hF : f_X9_run this p0 p1 p2 h = some (rr, hh)) : ab_C l D cA sz yX9_run cX9_run 6 (some .int) 1 0 0 [.ref this, .int p0, .long p1, .int p2] h (some (.int rr)) hh := by
  refine Met.ofW (cc := cX9_run) (maxL := 6) (ret := (some .int)) (by decide) rfl ?_
  intro p e s m args below meth c s₁ B hml hv
  obtain ⟨rfl, hT, hR⟩ := hv
  have X : ab_X p s m _ meth c cX9_run 6 RX9 D cA sz := (ab_enter B hml hT hR).1
  have S := (ab_enter B hml hT hR).2
  have hr := B.returns
  obtain ⟨ls, hls, hl⟩ := ab_entry m [.ref this, .int p0, .long p1, .int p2] 6 (lv := [(0, .ref this), (1, .int p0), (2, .long p1), (4, .int p2)]) (by simp [lg_sl, ab_cat, ab_cI, ab_cJ, ab_cD, ab_cF, ab_cA]) (by simp [lv_args, ab_cat, ab_cI, ab_cJ, ab_cD, ab_cF, ab_cA])
  rw [hls]
  have hl : lv_has ls 6 [(0, va_rf (some this)), (1, .int p0), (2, .long p1), (4, .int p2)] := hl
  unfold f_X9_run at hF
  show W p l e (ab_rm 1 0 0) s m _ below meth c s.heap [] 0 0 _ _
  refine lv_iload_n X.1 X.2.1 dX9_run_0 rfl (lv_at hl 1 rfl) ?_
  refine lv_iconst (v := 0) X.1 X.2.1 dX9_run_1 (by decide) ?_
  refine ab_aload_n X dX9_run_2 rfl (lv_at hl 0 rfl) ?_
  refine ab_getI X S hF fi_9_9 lf_X9_347 dX9_run_3 (fun x1 hF => ?_)
  refine lv_iconst (v := 1) X.1 X.2.1 dX9_run_6 (by decide) ?_
  refine lv_isub X.1 X.2.1 dX9_run_7 ?_
  obtain ⟨x2, h3, e4, hF⟩ := bnd_out hF
  refine ab_callSi X S (c_X9_in l D cA sz e4) mi_X9_in lm_X9_343 lt_yX9_in (As := [.int p0, .int 0, .int (x1 - 1)]) (rest := []) rfl ⟨by decide, by decide⟩ ⟨by decide, by decide⟩ hl.1 rfl (by simp [ab_cat, ab_cI, ab_cJ, ab_cD, ab_cF]) dX9_run_8 (fun H1 locs1 S => ?_)
  refine lv_if_eq (tgt := 25) X.1 X.2.1 dX9_run_11 (by decide) (fun c5 => ?_) (fun c5 => ?_)
  · have hF := ab_pos c5 hF
    exact w_X9_run_25 X hr  S (lv_sub hl [] rfl) hF
  · have hF := ab_neg c5 hF
    refine lv_iload X.1 X.2.1 dX9_run_14 (lv_at hl 3 rfl) ?_
    refine lv_iconst (v := 0) X.1 X.2.1 dX9_run_16 (by decide) ?_
    refine lv_bipush (v := 30) X.1 X.2.1 dX9_run_17 (by decide) ?_
    obtain ⟨x6, h7, e8, hF⟩ := bnd_out hF
    refine ab_callSi X S (c_X9_in l D cA sz e8) mi_X9_in lm_X9_343 lt_yX9_in (As := [.int p2, .int 0, .int 30]) (rest := []) rfl ⟨by decide, by decide⟩ ⟨by decide, by decide⟩ hl.1 rfl (by simp [ab_cat, ab_cI, ab_cJ, ab_cD, ab_cF]) dX9_run_19 (fun H1 locs1 S => ?_)
    refine lv_if_ne (tgt := 27) X.1 X.2.1 dX9_run_22 (by decide) (fun c9 => ?_) (fun c9 => ?_)
    · have hF := ab_pos c9 hF
      refine lv_iconst (v := 0) X.1 X.2.1 dX9_run_27 (by decide) ?_
      refine lv_istore (lv' := [(5, .int 0), (0, va_rf (some this)), (1, .int p0), (2, .long p1), (4, .int p2)]) X.1 X.2.1 dX9_run_28 hl (by decide) (by simp [ab_cat, ab_cI, ab_cJ, ab_cD, ab_cF]) (fun ls hl => ?_)
      exact w_X9_run_30 X hr  fuelN _ _ _ _ _ _ _ _ _ S (lv_sub hl [1, 2, 3, 4, 0] rfl) hF
    · have hF := ab_neg (fun q => q c9) hF
      exact w_X9_run_25 X hr  S (lv_sub hl [] rfl) hF
def f_X9_set_40   (h : Hp) : Option (Int32 × Hp) :=
  some ((-1), h)
set_option maxHeartbeats 4000000 in
set_option maxRecDepth 100000 in
theorem w_X9_set_40 {p : Program} {l : Launch} {e : Env} {s : State} {m : MethodId} {args : Array Value} {below : List Frame} {meth : Method} {c : Code} {D : va_G} {cA : Nat → ClassId} {sz : Nat} {rr : Int32} {hh : Hp}  (X : ab_X p s m args meth c cX9_set 6 RX9 D cA sz) (hr : meth.sig.returnType = (some .int))  {H : Heap} {locs : List Loc} {ls : Array Slot}  {h : Hp} (S : ab_H D cA sz h s H locs) (hl : lv_has ls 6 []) (hF : f_X9_set_40  h = some (rr, hh)) : W p l e (ab_rm 2 0 0) s m args below meth c H locs 0 0 (MQ below (ab_Q D cA sz (some (.int rr)) hh) args s 0 0 (fun q => sz ≤ q)) (F0 m 40 ls []) := by
  unfold f_X9_set_40 at hF
  refine lv_iconst (v := (-1)) X.1 X.2.1 dX9_set_40 (by decide) ?_
  exact ab_iret X S hr hF dX9_set_41
def f_X9_set (this : Nat) (p0 : Int32) (p1 : Int32) (p2 : Int64) (p3 : Int32) (h : Hp) : Option (Int32 × Hp) :=
  (ab_ck h (some this) (9, 0)).bind fun a4 =>
  bnd (f_X9_isRun a4 p0 h) fun x1 h2 =>
  if x1 = 0 then
    f_X9_set_40 h2
  else
    (getR h2 (some this) 9 0).bind fun x7 =>
    (getR h2 (some this) 9 15).bind fun x8 =>
    (aldI h2 x8 11 p0).bind fun x9 =>
    (aldI h2 x7 11 x9).bind fun x10 =>
    bnd (f_X9_in p1 0 (x10 - 1) h2) fun x11 h12 =>
    if x11 = 0 then
      f_X9_set_40 h12
    else
      bnd (f_X9_in p3 0 30 h12) fun x15 h16 =>
      if ¬ x15 = 0 then
        (getR h16 (some this) 9 22).bind fun x19 =>
        (aldI h16 x19 12 p0).bind fun x20 =>
        if x20 = 0 then
          (getR h16 (some this) 9 30).bind fun x22 =>
          (getR h16 (some this) 9 15).bind fun x23 =>
          (aldI h16 x23 11 p0).bind fun x24 =>
          bnd (f_X9_number p2 p3 h16) fun x25 h26 =>
          (ab_ck h26 (some this) (9, 0)).bind fun a31 =>
          bnd (f_X9_put a31 x24 p1 x25 h26) fun x28 h29 =>
          (astD h29 x22 ((6 * p0) + p1) x28).bind fun h33 =>
          some (1, h33)
        else
          some ((-2), h16)
      else
        f_X9_set_40 h16
theorem mi_X9_set : ab_MI yX9_set cX9_set 6 (some .int) 4 := ⟨lc_yX9_set, lz_RX9, by decide, by decide, by decide +kernel⟩
set_option maxHeartbeats 4000000 in
set_option maxRecDepth 100000 in
theorem c_X9_set (l : Launch) (D : va_G) (cA : Nat → ClassId) (sz : Nat) {this : Nat} {p0 : Int32} {p1 : Int32} {p2 : Int64} {p3 : Int32} {h hh : Hp} {rr : Int32} (hF : f_X9_set this p0 p1 p2 p3 h = some (rr, hh)) : ab_C l D cA sz yX9_set cX9_set 6 (some .int) 2 0 0 [.ref this, .int p0, .int p1, .long p2, .int p3] h (some (.int rr)) hh := by
  refine Met.ofW (cc := cX9_set) (maxL := 6) (ret := (some .int)) (by decide) rfl ?_
  intro p e s m args below meth c s₁ B hml hv
  obtain ⟨rfl, hT, hR⟩ := hv
  have X : ab_X p s m _ meth c cX9_set 6 RX9 D cA sz := (ab_enter B hml hT hR).1
  have S := (ab_enter B hml hT hR).2
  have hr := B.returns
  obtain ⟨ls, hls, hl⟩ := ab_entry m [.ref this, .int p0, .int p1, .long p2, .int p3] 6 (lv := [(0, .ref this), (1, .int p0), (2, .int p1), (3, .long p2), (5, .int p3)]) (by simp [lg_sl, ab_cat, ab_cI, ab_cJ, ab_cD, ab_cF, ab_cA]) (by simp [lv_args, ab_cat, ab_cI, ab_cJ, ab_cD, ab_cF, ab_cA])
  rw [hls]
  have hl : lv_has ls 6 [(0, va_rf (some this)), (1, .int p0), (2, .int p1), (3, .long p2), (5, .int p3)] := hl
  unfold f_X9_set at hF
  show W p l e (ab_rm 2 0 0) s m _ below meth c s.heap [] 0 0 _ _
  refine ab_aload_n X dX9_set_0 rfl (lv_at hl 0 rfl) ?_
  refine lv_iload_n X.1 X.2.1 dX9_set_1 rfl (lv_at hl 1 rfl) ?_
  obtain ⟨a4, e5, hF⟩ := bind_out hF
  obtain ⟨x1, h2, e3, hF⟩ := bnd_out hF
  refine ab_callVi X S e5 (c_X9_isRun l D cA sz e3) rfl (by decide) mi_X9_isRun lm_X9_366 li_yX9_isRun ls_yX9_isRun (As := [.int p0]) (rest := []) rfl ⟨by decide, by decide⟩ ⟨by decide, by decide⟩ hl.1 rfl (by simp [ab_cat, ab_cI, ab_cJ, ab_cD, ab_cF]) dX9_set_2 (fun H1 locs1 S => ?_)
  refine lv_if_eq (tgt := 40) X.1 X.2.1 dX9_set_5 (by decide) (fun c6 => ?_) (fun c6 => ?_)
  · have hF := ab_pos c6 hF
    exact w_X9_set_40 X hr  S (lv_sub hl [] rfl) hF
  · have hF := ab_neg c6 hF
    refine lv_iload_n X.1 X.2.1 dX9_set_8 rfl (lv_at hl 2 rfl) ?_
    refine lv_iconst (v := 0) X.1 X.2.1 dX9_set_9 (by decide) ?_
    refine ab_aload_n X dX9_set_10 rfl (lv_at hl 0 rfl) ?_
    refine ab_getR X S hF fi_9_0 lf_X9_9 dX9_set_11 (fun x7 hF => ?_)
    refine ab_aload_n X dX9_set_14 rfl (lv_at hl 0 rfl) ?_
    refine ab_getR X S hF fi_9_15 lf_X9_52 dX9_set_15 (fun x8 hF => ?_)
    refine lv_iload_n X.1 X.2.1 dX9_set_18 rfl (lv_at hl 1 rfl) ?_
    refine ab_aldI X S hF dX9_set_19 (fun x9 hF => ?_)
    refine ab_aldI X S hF dX9_set_20 (fun x10 hF => ?_)
    refine lv_iconst (v := 1) X.1 X.2.1 dX9_set_21 (by decide) ?_
    refine lv_isub X.1 X.2.1 dX9_set_22 ?_
    obtain ⟨x11, h12, e13, hF⟩ := bnd_out hF
    refine ab_callSi X S (c_X9_in l D cA sz e13) mi_X9_in lm_X9_343 lt_yX9_in (As := [.int p1, .int 0, .int (x10 - 1)]) (rest := []) rfl ⟨by decide, by decide⟩ ⟨by decide, by decide⟩ hl.1 rfl (by simp [ab_cat, ab_cI, ab_cJ, ab_cD, ab_cF]) dX9_set_23 (fun H1 locs1 S => ?_)
    refine lv_if_eq (tgt := 40) X.1 X.2.1 dX9_set_26 (by decide) (fun c14 => ?_) (fun c14 => ?_)
    · have hF := ab_pos c14 hF
      exact w_X9_set_40 X hr  S (lv_sub hl [] rfl) hF
    · have hF := ab_neg c14 hF
      refine lv_iload X.1 X.2.1 dX9_set_29 (lv_at hl 4 rfl) ?_
      refine lv_iconst (v := 0) X.1 X.2.1 dX9_set_31 (by decide) ?_
      refine lv_bipush (v := 30) X.1 X.2.1 dX9_set_32 (by decide) ?_
      obtain ⟨x15, h16, e17, hF⟩ := bnd_out hF
      refine ab_callSi X S (c_X9_in l D cA sz e17) mi_X9_in lm_X9_343 lt_yX9_in (As := [.int p3, .int 0, .int 30]) (rest := []) rfl ⟨by decide, by decide⟩ ⟨by decide, by decide⟩ hl.1 rfl (by simp [ab_cat, ab_cI, ab_cJ, ab_cD, ab_cF]) dX9_set_34 (fun H1 locs1 S => ?_)
      refine lv_if_ne (tgt := 42) X.1 X.2.1 dX9_set_37 (by decide) (fun c18 => ?_) (fun c18 => ?_)
      · have hF := ab_pos c18 hF
        refine ab_aload_n X dX9_set_42 rfl (lv_at hl 0 rfl) ?_
        refine ab_getR X S hF fi_9_22 lf_X9_73 dX9_set_43 (fun x19 hF => ?_)
        refine lv_iload_n X.1 X.2.1 dX9_set_46 rfl (lv_at hl 1 rfl) ?_
        refine ab_aldZ X S hF dX9_set_47 (fun x20 hF => ?_)
        refine lv_if_eq (tgt := 54) X.1 X.2.1 dX9_set_48 (by decide) (fun c21 => ?_) (fun c21 => ?_)
        · have hF := ab_pos c21 hF
          refine ab_aload_n X dX9_set_54 rfl (lv_at hl 0 rfl) ?_
          refine ab_getR X S hF fi_9_30 lf_X9_98 dX9_set_55 (fun x22 hF => ?_)
          refine lv_bipush (v := 6) X.1 X.2.1 dX9_set_58 (by decide) ?_
          refine lv_iload_n X.1 X.2.1 dX9_set_60 rfl (lv_at hl 1 rfl) ?_
          refine lv_imul X.1 X.2.1 dX9_set_61 ?_
          refine lv_iload_n X.1 X.2.1 dX9_set_62 rfl (lv_at hl 2 rfl) ?_
          refine lv_iadd X.1 X.2.1 dX9_set_63 ?_
          refine ab_aload_n X dX9_set_64 rfl (lv_at hl 0 rfl) ?_
          refine ab_aload_n X dX9_set_65 rfl (lv_at hl 0 rfl) ?_
          refine ab_getR X S hF fi_9_15 lf_X9_52 dX9_set_66 (fun x23 hF => ?_)
          refine lv_iload_n X.1 X.2.1 dX9_set_69 rfl (lv_at hl 1 rfl) ?_
          refine ab_aldI X S hF dX9_set_70 (fun x24 hF => ?_)
          refine lv_iload_n X.1 X.2.1 dX9_set_71 rfl (lv_at hl 2 rfl) ?_
          refine lv_lload_n X.1 X.2.1 dX9_set_72 rfl (lv_at hl 3 rfl) ?_
          refine lv_iload X.1 X.2.1 dX9_set_73 (lv_at hl 4 rfl) ?_
          obtain ⟨x25, h26, e27, hF⟩ := bnd_out hF
          refine ab_callSd X S (c_X9_number l D cA sz e27) mi_X9_number lm_X9_354 lt_yX9_number (As := [.long p2, .int p3]) (rest := [.int p1, .int x24, va_rf (some this), .int ((6 * p0) + p1), va_rf x22]) rfl ⟨by decide, by decide⟩ ⟨by decide, by decide⟩ hl.1 rfl (by simp [ab_cat, ab_cI, ab_cJ, ab_cD, ab_cF]) dX9_set_75 (fun H1 locs1 S => ?_)
          obtain ⟨a31, e32, hF⟩ := bind_out hF
          obtain ⟨x28, h29, e30, hF⟩ := bnd_out hF
          refine ab_callVd X S e32 (c_X9_put l D cA sz e30) rfl (by decide) mi_X9_put lm_X9_281 li_yX9_put ls_yX9_put (As := [.int x24, .int p1, .double x25]) (rest := [.int ((6 * p0) + p1), va_rf x22]) rfl ⟨by decide, by decide⟩ ⟨by decide, by decide⟩ hl.1 rfl (by simp [ab_cat, ab_cI, ab_cJ, ab_cD, ab_cF]) dX9_set_78 (fun H1 locs1 S => ?_)
          refine ab_astD X S hF dX9_set_81 (fun h33 H1 locs1 hF S => ?_)
          refine lv_iconst (v := 1) X.1 X.2.1 dX9_set_82 (by decide) ?_
          exact ab_iret X S hr hF dX9_set_83
        · have hF := ab_neg c21 hF
          refine lv_bipush (v := (-2)) X.1 X.2.1 dX9_set_51 (by decide) ?_
          exact ab_iret X S hr hF dX9_set_53
      · have hF := ab_neg (fun q => q c18) hF
        exact w_X9_set_40 X hr  S (lv_sub hl [] rfl) hF
def f_X9_method_18   (h : Hp) : Option (Int32 × Hp) :=
  some ((-1), h)
set_option maxHeartbeats 4000000 in
set_option maxRecDepth 100000 in
theorem w_X9_method_18 {p : Program} {l : Launch} {e : Env} {s : State} {m : MethodId} {args : Array Value} {below : List Frame} {meth : Method} {c : Code} {D : va_G} {cA : Nat → ClassId} {sz : Nat} {rr : Int32} {hh : Hp}  (X : ab_X p s m args meth c cX9_method 3 RX9 D cA sz) (hr : meth.sig.returnType = (some .int))  {H : Heap} {locs : List Loc} {ls : Array Slot}  {h : Hp} (S : ab_H D cA sz h s H locs) (hl : lv_has ls 3 []) (hF : f_X9_method_18  h = some (rr, hh)) : W p l e (ab_rm 2 0 0) s m args below meth c H locs 0 0 (MQ below (ab_Q D cA sz (some (.int rr)) hh) args s 0 0 (fun q => sz ≤ q)) (F0 m 18 ls []) := by
  unfold f_X9_method_18 at hF
  refine lv_iconst (v := (-1)) X.1 X.2.1 dX9_method_18 (by decide) ?_
  exact ab_iret X S hr hF dX9_method_19
def f_X9_method_46  (v0 : Option Nat) (v1 : Int32) (v2 : Int32) (h : Hp) : Option (Int32 × Hp) :=
  (getR h v0 9 16).bind fun x1 =>
  (astI h x1 v1 v2).bind fun h2 =>
  some (1, h2)
set_option maxHeartbeats 4000000 in
set_option maxRecDepth 100000 in
theorem w_X9_method_46 {p : Program} {l : Launch} {e : Env} {s : State} {m : MethodId} {args : Array Value} {below : List Frame} {meth : Method} {c : Code} {D : va_G} {cA : Nat → ClassId} {sz : Nat} {rr : Int32} {hh : Hp}  (X : ab_X p s m args meth c cX9_method 3 RX9 D cA sz) (hr : meth.sig.returnType = (some .int))  {H : Heap} {locs : List Loc} {ls : Array Slot} {v0 : Option Nat} {v1 : Int32} {v2 : Int32} {h : Hp} (S : ab_H D cA sz h s H locs) (hl : lv_has ls 3 [(0, va_rf v0), (1, .int v1), (2, .int v2)]) (hF : f_X9_method_46 v0 v1 v2 h = some (rr, hh)) : W p l e (ab_rm 2 0 0) s m args below meth c H locs 0 0 (MQ below (ab_Q D cA sz (some (.int rr)) hh) args s 0 0 (fun q => sz ≤ q)) (F0 m 46 ls []) := by
  unfold f_X9_method_46 at hF
  refine ab_aload_n X dX9_method_46 rfl (lv_at hl 0 rfl) ?_
  refine ab_getR X S hF fi_9_16 lf_X9_55 dX9_method_47 (fun x1 hF => ?_)
  refine lv_iload_n X.1 X.2.1 dX9_method_50 rfl (lv_at hl 1 rfl) ?_
  refine lv_iload_n X.1 X.2.1 dX9_method_51 rfl (lv_at hl 2 rfl) ?_
  refine ab_astI X S hF dX9_method_52 (fun h2 H1 locs1 hF S => ?_)
  refine lv_iconst (v := 1) X.1 X.2.1 dX9_method_53 (by decide) ?_
  exact ab_iret X S hr hF dX9_method_54
def f_X9_method (this : Nat) (p0 : Int32) (p1 : Int32) (h : Hp) : Option (Int32 × Hp) :=
  (ab_ck h (some this) (9, 0)).bind fun a4 =>
  bnd (f_X9_isRun a4 p0 h) fun x1 h2 =>
  if x1 = 0 then
    f_X9_method_18 h2
  else
    bnd (f_X9_in p1 0 6 h2) fun x7 h8 =>
    if ¬ x7 = 0 then
      if ¬ p1 = 6 then
        f_X9_method_46 (some this) p0 p1 h8
      else
        (getR h8 (some this) 9 0).bind fun x12 =>
        (getR h8 (some this) 9 15).bind fun x13 =>
        (aldI h8 x13 11 p0).bind fun x14 =>
        (aldI h8 x12 11 x14).bind fun x15 =>
        if ¬ (x15 - x15 / 2 * 2) = 1 then
          f_X9_method_46 (some this) p0 p1 h8
        else
          some ((-2), h8)
    else
      f_X9_method_18 h8
theorem mi_X9_method : ab_MI yX9_method cX9_method 3 (some .int) 2 := ⟨lc_yX9_method, lz_RX9, by decide, by decide, by decide +kernel⟩
set_option maxHeartbeats 4000000 in
set_option maxRecDepth 100000 in
theorem c_X9_method (l : Launch) (D : va_G) (cA : Nat → ClassId) (sz : Nat) {this : Nat} {p0 : Int32} {p1 : Int32} {h hh : Hp} {rr : Int32} (hF : f_X9_method this p0 p1 h = some (rr, hh)) : ab_C l D cA sz yX9_method cX9_method 3 (some .int) 2 0 0 [.ref this, .int p0, .int p1] h (some (.int rr)) hh := by
  refine Met.ofW (cc := cX9_method) (maxL := 3) (ret := (some .int)) (by decide) rfl ?_
  intro p e s m args below meth c s₁ B hml hv
  obtain ⟨rfl, hT, hR⟩ := hv
  have X : ab_X p s m _ meth c cX9_method 3 RX9 D cA sz := (ab_enter B hml hT hR).1
  have S := (ab_enter B hml hT hR).2
  have hr := B.returns
  obtain ⟨ls, hls, hl⟩ := ab_entry m [.ref this, .int p0, .int p1] 3 (lv := [(0, .ref this), (1, .int p0), (2, .int p1)]) (by simp [lg_sl, ab_cat, ab_cI, ab_cJ, ab_cD, ab_cF, ab_cA]) (by simp [lv_args, ab_cat, ab_cI, ab_cJ, ab_cD, ab_cF, ab_cA])
  rw [hls]
  have hl : lv_has ls 3 [(0, va_rf (some this)), (1, .int p0), (2, .int p1)] := hl
  unfold f_X9_method at hF
  show W p l e (ab_rm 2 0 0) s m _ below meth c s.heap [] 0 0 _ _
  refine ab_aload_n X dX9_method_0 rfl (lv_at hl 0 rfl) ?_
  refine lv_iload_n X.1 X.2.1 dX9_method_1 rfl (lv_at hl 1 rfl) ?_
  obtain ⟨a4, e5, hF⟩ := bind_out hF
  obtain ⟨x1, h2, e3, hF⟩ := bnd_out hF
  refine ab_callVi X S e5 (c_X9_isRun l D cA sz e3) rfl (by decide) mi_X9_isRun lm_X9_366 li_yX9_isRun ls_yX9_isRun (As := [.int p0]) (rest := []) rfl ⟨by decide, by decide⟩ ⟨by decide, by decide⟩ hl.1 rfl (by simp [ab_cat, ab_cI, ab_cJ, ab_cD, ab_cF]) dX9_method_2 (fun H1 locs1 S => ?_)
  refine lv_if_eq (tgt := 18) X.1 X.2.1 dX9_method_5 (by decide) (fun c6 => ?_) (fun c6 => ?_)
  · have hF := ab_pos c6 hF
    exact w_X9_method_18 X hr  S (lv_sub hl [] rfl) hF
  · have hF := ab_neg c6 hF
    refine lv_iload_n X.1 X.2.1 dX9_method_8 rfl (lv_at hl 2 rfl) ?_
    refine lv_iconst (v := 0) X.1 X.2.1 dX9_method_9 (by decide) ?_
    refine lv_bipush (v := 6) X.1 X.2.1 dX9_method_10 (by decide) ?_
    obtain ⟨x7, h8, e9, hF⟩ := bnd_out hF
    refine ab_callSi X S (c_X9_in l D cA sz e9) mi_X9_in lm_X9_343 lt_yX9_in (As := [.int p1, .int 0, .int 6]) (rest := []) rfl ⟨by decide, by decide⟩ ⟨by decide, by decide⟩ hl.1 rfl (by simp [ab_cat, ab_cI, ab_cJ, ab_cD, ab_cF]) dX9_method_12 (fun H1 locs1 S => ?_)
    refine lv_if_ne (tgt := 20) X.1 X.2.1 dX9_method_15 (by decide) (fun c10 => ?_) (fun c10 => ?_)
    · have hF := ab_pos c10 hF
      refine lv_iload_n X.1 X.2.1 dX9_method_20 rfl (lv_at hl 2 rfl) ?_
      refine lv_bipush (v := 6) X.1 X.2.1 dX9_method_21 (by decide) ?_
      refine lv_icmp_ne (tgt := 46) X.1 X.2.1 dX9_method_23 (by decide) (fun c11 => ?_) (fun c11 => ?_)
      · have hF := ab_pos c11 hF
        exact w_X9_method_46 X hr  S (lv_sub hl [0, 1, 2] rfl) hF
      · have hF := ab_neg (fun q => q c11) hF
        refine ab_aload_n X dX9_method_26 rfl (lv_at hl 0 rfl) ?_
        refine ab_getR X S hF fi_9_0 lf_X9_9 dX9_method_27 (fun x12 hF => ?_)
        refine ab_aload_n X dX9_method_30 rfl (lv_at hl 0 rfl) ?_
        refine ab_getR X S hF fi_9_15 lf_X9_52 dX9_method_31 (fun x13 hF => ?_)
        refine lv_iload_n X.1 X.2.1 dX9_method_34 rfl (lv_at hl 1 rfl) ?_
        refine ab_aldI X S hF dX9_method_35 (fun x14 hF => ?_)
        refine ab_aldI X S hF dX9_method_36 (fun x15 hF => ?_)
        refine lv_iconst (v := 2) X.1 X.2.1 dX9_method_37 (by decide) ?_
        refine lv_irem X.1 X.2.1 dX9_method_38 (by decide) ?_
        refine lv_iconst (v := 1) X.1 X.2.1 dX9_method_39 (by decide) ?_
        refine lv_icmp_ne (tgt := 46) X.1 X.2.1 dX9_method_40 (by decide) (fun c16 => ?_) (fun c16 => ?_)
        · have hF := ab_pos c16 hF
          exact w_X9_method_46 X hr  S (lv_sub hl [0, 1, 2] rfl) hF
        · have hF := ab_neg (fun q => q c16) hF
          refine lv_bipush (v := (-2)) X.1 X.2.1 dX9_method_43 (by decide) ?_
          exact ab_iret X S hr hF dX9_method_45
    · have hF := ab_neg (fun q => q c10) hF
      exact w_X9_method_18 X hr  S (lv_sub hl [] rfl) hF
def f_X9_length_19   (h : Hp) : Option (Int32 × Hp) :=
  some ((-1), h)
set_option maxHeartbeats 4000000 in
set_option maxRecDepth 100000 in
theorem w_X9_length_19 {p : Program} {l : Launch} {e : Env} {s : State} {m : MethodId} {args : Array Value} {below : List Frame} {meth : Method} {c : Code} {D : va_G} {cA : Nat → ClassId} {sz : Nat} {rr : Int32} {hh : Hp}  (X : ab_X p s m args meth c cX9_length 7 RX9 D cA sz) (hr : meth.sig.returnType = (some .int))  {H : Heap} {locs : List Loc} {ls : Array Slot}  {h : Hp} (S : ab_H D cA sz h s H locs) (hl : lv_has ls 7 []) (hF : f_X9_length_19  h = some (rr, hh)) : W p l e (ab_rm 2 0 0) s m args below meth c H locs 0 0 (MQ below (ab_Q D cA sz (some (.int rr)) hh) args s 0 0 (fun q => sz ≤ q)) (F0 m 19 ls []) := by
  unfold f_X9_length_19 at hF
  refine lv_iconst (v := (-1)) X.1 X.2.1 dX9_length_19 (by decide) ?_
  exact ab_iret X S hr hF dX9_length_20
def f_X9_length_53   (h : Hp) : Option (Int32 × Hp) :=
  some ((-1), h)
set_option maxHeartbeats 4000000 in
set_option maxRecDepth 100000 in
theorem w_X9_length_53 {p : Program} {l : Launch} {e : Env} {s : State} {m : MethodId} {args : Array Value} {below : List Frame} {meth : Method} {c : Code} {D : va_G} {cA : Nat → ClassId} {sz : Nat} {rr : Int32} {hh : Hp}  (X : ab_X p s m args meth c cX9_length 7 RX9 D cA sz) (hr : meth.sig.returnType = (some .int))  {H : Heap} {locs : List Loc} {ls : Array Slot}  {h : Hp} (S : ab_H D cA sz h s H locs) (hl : lv_has ls 7 []) (hF : f_X9_length_53  h = some (rr, hh)) : W p l e (ab_rm 2 0 0) s m args below meth c H locs 0 0 (MQ below (ab_Q D cA sz (some (.int rr)) hh) args s 0 0 (fun q => sz ≤ q)) (F0 m 53 ls []) := by
  unfold f_X9_length_53 at hF
  refine lv_iconst (v := (-1)) X.1 X.2.1 dX9_length_53 (by decide) ?_
  exact ab_iret X S hr hF dX9_length_54
def f_X9_length (this : Nat) (p0 : Int32) (p1 : Int64) (p2 : Int32) (h : Hp) : Option (Int32 × Hp) :=
  (ab_ck h (some this) (9, 0)).bind fun a4 =>
  bnd (f_X9_isRun a4 p0 h) fun x1 h2 =>
  if x1 = 0 then
    f_X9_length_19 h2
  else
    bnd (f_X9_in p2 0 30 h2) fun x7 h8 =>
    if ¬ x7 = 0 then
      bnd (f_X9_number p1 p2 h8) fun x11 h12 =>
      bnd (f_X9_size x11 h12) fun x14 h15 =>
      if (Op.cmpValue (FP.dcmp x14 4472074429978902528) CmpOp.g) < 0 then
        f_X9_length_53 h15
      else
        bnd (f_X9_size x11 h15) fun x18 h19 =>
        if (Op.cmpValue (FP.dcmp x18 4652218415073722368) CmpOp.l) ≤ 0 then
          (getR h19 (some this) 9 26).bind fun x22 =>
          (astD h19 x22 p0 x11).bind fun h23 =>
          some (1, h23)
        else
          f_X9_length_53 h19
    else
      f_X9_length_19 h8
theorem mi_X9_length : ab_MI yX9_length cX9_length 7 (some .int) 3 := ⟨lc_yX9_length, lz_RX9, by decide, by decide, by decide +kernel⟩
set_option maxHeartbeats 4000000 in
set_option maxRecDepth 100000 in
theorem c_X9_length (l : Launch) (D : va_G) (cA : Nat → ClassId) (sz : Nat) {this : Nat} {p0 : Int32} {p1 : Int64} {p2 : Int32} {h hh : Hp} {rr : Int32} (hF : f_X9_length this p0 p1 p2 h = some (rr, hh)) : ab_C l D cA sz yX9_length cX9_length 7 (some .int) 2 0 0 [.ref this, .int p0, .long p1, .int p2] h (some (.int rr)) hh := by
  refine Met.ofW (cc := cX9_length) (maxL := 7) (ret := (some .int)) (by decide) rfl ?_
  intro p e s m args below meth c s₁ B hml hv
  obtain ⟨rfl, hT, hR⟩ := hv
  have X : ab_X p s m _ meth c cX9_length 7 RX9 D cA sz := (ab_enter B hml hT hR).1
  have S := (ab_enter B hml hT hR).2
  have hr := B.returns
  obtain ⟨ls, hls, hl⟩ := ab_entry m [.ref this, .int p0, .long p1, .int p2] 7 (lv := [(0, .ref this), (1, .int p0), (2, .long p1), (4, .int p2)]) (by simp [lg_sl, ab_cat, ab_cI, ab_cJ, ab_cD, ab_cF, ab_cA]) (by simp [lv_args, ab_cat, ab_cI, ab_cJ, ab_cD, ab_cF, ab_cA])
  rw [hls]
  have hl : lv_has ls 7 [(0, va_rf (some this)), (1, .int p0), (2, .long p1), (4, .int p2)] := hl
  unfold f_X9_length at hF
  show W p l e (ab_rm 2 0 0) s m _ below meth c s.heap [] 0 0 _ _
  refine ab_aload_n X dX9_length_0 rfl (lv_at hl 0 rfl) ?_
  refine lv_iload_n X.1 X.2.1 dX9_length_1 rfl (lv_at hl 1 rfl) ?_
  obtain ⟨a4, e5, hF⟩ := bind_out hF
  obtain ⟨x1, h2, e3, hF⟩ := bnd_out hF
  refine ab_callVi X S e5 (c_X9_isRun l D cA sz e3) rfl (by decide) mi_X9_isRun lm_X9_366 li_yX9_isRun ls_yX9_isRun (As := [.int p0]) (rest := []) rfl ⟨by decide, by decide⟩ ⟨by decide, by decide⟩ hl.1 rfl (by simp [ab_cat, ab_cI, ab_cJ, ab_cD, ab_cF]) dX9_length_2 (fun H1 locs1 S => ?_)
  refine lv_if_eq (tgt := 19) X.1 X.2.1 dX9_length_5 (by decide) (fun c6 => ?_) (fun c6 => ?_)
  · have hF := ab_pos c6 hF
    exact w_X9_length_19 X hr  S (lv_sub hl [] rfl) hF
  · have hF := ab_neg c6 hF
    refine lv_iload X.1 X.2.1 dX9_length_8 (lv_at hl 3 rfl) ?_
    refine lv_iconst (v := 0) X.1 X.2.1 dX9_length_10 (by decide) ?_
    refine lv_bipush (v := 30) X.1 X.2.1 dX9_length_11 (by decide) ?_
    obtain ⟨x7, h8, e9, hF⟩ := bnd_out hF
    refine ab_callSi X S (c_X9_in l D cA sz e9) mi_X9_in lm_X9_343 lt_yX9_in (As := [.int p2, .int 0, .int 30]) (rest := []) rfl ⟨by decide, by decide⟩ ⟨by decide, by decide⟩ hl.1 rfl (by simp [ab_cat, ab_cI, ab_cJ, ab_cD, ab_cF]) dX9_length_13 (fun H1 locs1 S => ?_)
    refine lv_if_ne (tgt := 21) X.1 X.2.1 dX9_length_16 (by decide) (fun c10 => ?_) (fun c10 => ?_)
    · have hF := ab_pos c10 hF
      refine lv_lload_n X.1 X.2.1 dX9_length_21 rfl (lv_at hl 2 rfl) ?_
      refine lv_iload X.1 X.2.1 dX9_length_22 (lv_at hl 3 rfl) ?_
      obtain ⟨x11, h12, e13, hF⟩ := bnd_out hF
      refine ab_callSd X S (c_X9_number l D cA sz e13) mi_X9_number lm_X9_354 lt_yX9_number (As := [.long p1, .int p2]) (rest := []) rfl ⟨by decide, by decide⟩ ⟨by decide, by decide⟩ hl.1 rfl (by simp [ab_cat, ab_cI, ab_cJ, ab_cD, ab_cF]) dX9_length_24 (fun H1 locs1 S => ?_)
      refine lv_dstore (lv' := [(5, .double x11), (0, va_rf (some this)), (1, .int p0), (2, .long p1), (4, .int p2)]) X.1 X.2.1 dX9_length_27 hl (by decide) (by simp [ab_cat, ab_cI, ab_cJ, ab_cD, ab_cF]) (fun ls hl => ?_)
      refine lv_dload X.1 X.2.1 dX9_length_29 (lv_at hl 0 rfl) ?_
      obtain ⟨x14, h15, e16, hF⟩ := bnd_out hF
      refine ab_callSd X S (c_X9_size l D cA sz e16) mi_X9_size lm_X9_221 lt_yX9_size (As := [.double x11]) (rest := []) rfl ⟨by decide, by decide⟩ ⟨by decide, by decide⟩ hl.1 rfl (by simp [ab_cat, ab_cI, ab_cJ, ab_cD, ab_cF]) dX9_length_31 (fun H1 locs1 S => ?_)
      refine lv_ldc2d (v := 4472074429978902528) X.1 X.2.1 X.2.2.2.1 (X.2.2.2.2.1 _ ld_X9_309) dX9_length_34 ?_
      refine lv_dcmp X.1 X.2.1 dX9_length_37 ?_
      refine lv_if_lt (tgt := 53) X.1 X.2.1 dX9_length_38 (by decide) (fun c17 => ?_) (fun c17 => ?_)
      · have hF := ab_pos c17 hF
        exact w_X9_length_53 X hr  S (lv_sub hl [] rfl) hF
      · have hF := ab_neg c17 hF
        refine lv_dload X.1 X.2.1 dX9_length_41 (lv_at hl 0 rfl) ?_
        obtain ⟨x18, h19, e20, hF⟩ := bnd_out hF
        refine ab_callSd X S (c_X9_size l D cA sz e20) mi_X9_size lm_X9_221 lt_yX9_size (As := [.double x11]) (rest := []) rfl ⟨by decide, by decide⟩ ⟨by decide, by decide⟩ hl.1 rfl (by simp [ab_cat, ab_cI, ab_cJ, ab_cD, ab_cF]) dX9_length_43 (fun H1 locs1 S => ?_)
        refine lv_ldc2d (v := 4652218415073722368) X.1 X.2.1 X.2.2.2.1 (X.2.2.2.2.1 _ ld_X9_326) dX9_length_46 ?_
        refine lv_dcmp X.1 X.2.1 dX9_length_49 ?_
        refine lv_if_le (tgt := 55) X.1 X.2.1 dX9_length_50 (by decide) (fun c21 => ?_) (fun c21 => ?_)
        · have hF := ab_pos c21 hF
          refine ab_aload_n X dX9_length_55 rfl (lv_at hl 1 rfl) ?_
          refine ab_getR X S hF fi_9_26 lf_X9_86 dX9_length_56 (fun x22 hF => ?_)
          refine lv_iload_n X.1 X.2.1 dX9_length_59 rfl (lv_at hl 2 rfl) ?_
          refine lv_dload X.1 X.2.1 dX9_length_60 (lv_at hl 0 rfl) ?_
          refine ab_astD X S hF dX9_length_62 (fun h23 H1 locs1 hF S => ?_)
          refine lv_iconst (v := 1) X.1 X.2.1 dX9_length_63 (by decide) ?_
          exact ab_iret X S hr hF dX9_length_64
        · have hF := ab_neg c21 hF
          exact w_X9_length_53 X hr  S (lv_sub hl [] rfl) hF
    · have hF := ab_neg (fun q => q c10) hF
      exact w_X9_length_19 X hr  S (lv_sub hl [] rfl) hF
def f_X9_tolerance_32   (h : Hp) : Option (Int32 × Hp) :=
  some ((-1), h)
set_option maxHeartbeats 4000000 in
set_option maxRecDepth 100000 in
theorem w_X9_tolerance_32 {p : Program} {l : Launch} {e : Env} {s : State} {m : MethodId} {args : Array Value} {below : List Frame} {meth : Method} {c : Code} {D : va_G} {cA : Nat → ClassId} {sz : Nat} {rr : Int32} {hh : Hp}  (X : ab_X p s m args meth c cX9_tolerance 7 RX9 D cA sz) (hr : meth.sig.returnType = (some .int))  {H : Heap} {locs : List Loc} {ls : Array Slot}  {h : Hp} (S : ab_H D cA sz h s H locs) (hl : lv_has ls 7 []) (hF : f_X9_tolerance_32  h = some (rr, hh)) : W p l e (ab_rm 2 0 0) s m args below meth c H locs 0 0 (MQ below (ab_Q D cA sz (some (.int rr)) hh) args s 0 0 (fun q => sz ≤ q)) (F0 m 32 ls []) := by
  unfold f_X9_tolerance_32 at hF
  refine lv_iconst (v := (-1)) X.1 X.2.1 dX9_tolerance_32 (by decide) ?_
  exact ab_iret X S hr hF dX9_tolerance_33
def f_X9_tolerance (this : Nat) (p0 : Int32) (p1 : Int64) (p2 : Int64) (p3 : Int32) (h : Hp) : Option (Int32 × Hp) :=
  (ab_ck h (some this) (9, 0)).bind fun a4 =>
  bnd (f_X9_isRun a4 p0 h) fun x1 h2 =>
  if x1 = 0 then
    f_X9_tolerance_32 h2
  else
    bnd (f_X9_in p3 0 30 h2) fun x7 h8 =>
    if x7 = 0 then
      f_X9_tolerance_32 h8
    else
      if (lg_cmp p1 1) < 0 then
        f_X9_tolerance_32 h8
      else
        if 0 ≤ (lg_cmp p2 0) then
          (getR h8 (some this) 9 27).bind fun x13 =>
          bnd (f_X9_number p1 p3 h8) fun x14 h15 =>
          (astD h15 x13 p0 x14).bind fun h17 =>
          (getR h17 (some this) 9 28).bind fun x18 =>
          bnd (f_X9_number p2 p3 h17) fun x19 h20 =>
          (astD h20 x18 p0 x19).bind fun h22 =>
          some (1, h22)
        else
          f_X9_tolerance_32 h8
theorem mi_X9_tolerance : ab_MI yX9_tolerance cX9_tolerance 7 (some .int) 4 := ⟨lc_yX9_tolerance, lz_RX9, by decide, by decide, by decide +kernel⟩
set_option maxHeartbeats 4000000 in
set_option maxRecDepth 100000 in
theorem c_X9_tolerance (l : Launch) (D : va_G) (cA : Nat → ClassId) (sz : Nat) {this : Nat} {p0 : Int32} {p1 : Int64} {p2 : Int64} {p3 : Int32} {h hh : Hp} {rr : Int32} (hF : f_X9_tolerance this p0 p1 p2 p3 h = some (rr, hh)) : ab_C l D cA sz yX9_tolerance cX9_tolerance 7 (some .int) 2 0 0 [.ref this, .int p0, .long p1, .long p2, .int p3] h (some (.int rr)) hh := by
  refine Met.ofW (cc := cX9_tolerance) (maxL := 7) (ret := (some .int)) (by decide) rfl ?_
  intro p e s m args below meth c s₁ B hml hv
  obtain ⟨rfl, hT, hR⟩ := hv
  have X : ab_X p s m _ meth c cX9_tolerance 7 RX9 D cA sz := (ab_enter B hml hT hR).1
  have S := (ab_enter B hml hT hR).2
  have hr := B.returns
  obtain ⟨ls, hls, hl⟩ := ab_entry m [.ref this, .int p0, .long p1, .long p2, .int p3] 7 (lv := [(0, .ref this), (1, .int p0), (2, .long p1), (4, .long p2), (6, .int p3)]) (by simp [lg_sl, ab_cat, ab_cI, ab_cJ, ab_cD, ab_cF, ab_cA]) (by simp [lv_args, ab_cat, ab_cI, ab_cJ, ab_cD, ab_cF, ab_cA])
  rw [hls]
  have hl : lv_has ls 7 [(0, va_rf (some this)), (1, .int p0), (2, .long p1), (4, .long p2), (6, .int p3)] := hl
  unfold f_X9_tolerance at hF
  show W p l e (ab_rm 2 0 0) s m _ below meth c s.heap [] 0 0 _ _
  refine ab_aload_n X dX9_tolerance_0 rfl (lv_at hl 0 rfl) ?_
  refine lv_iload_n X.1 X.2.1 dX9_tolerance_1 rfl (lv_at hl 1 rfl) ?_
  obtain ⟨a4, e5, hF⟩ := bind_out hF
  obtain ⟨x1, h2, e3, hF⟩ := bnd_out hF
  refine ab_callVi X S e5 (c_X9_isRun l D cA sz e3) rfl (by decide) mi_X9_isRun lm_X9_366 li_yX9_isRun ls_yX9_isRun (As := [.int p0]) (rest := []) rfl ⟨by decide, by decide⟩ ⟨by decide, by decide⟩ hl.1 rfl (by simp [ab_cat, ab_cI, ab_cJ, ab_cD, ab_cF]) dX9_tolerance_2 (fun H1 locs1 S => ?_)
  refine lv_if_eq (tgt := 32) X.1 X.2.1 dX9_tolerance_5 (by decide) (fun c6 => ?_) (fun c6 => ?_)
  · have hF := ab_pos c6 hF
    exact w_X9_tolerance_32 X hr  S (lv_sub hl [] rfl) hF
  · have hF := ab_neg c6 hF
    refine lv_iload X.1 X.2.1 dX9_tolerance_8 (lv_at hl 4 rfl) ?_
    refine lv_iconst (v := 0) X.1 X.2.1 dX9_tolerance_10 (by decide) ?_
    refine lv_bipush (v := 30) X.1 X.2.1 dX9_tolerance_11 (by decide) ?_
    obtain ⟨x7, h8, e9, hF⟩ := bnd_out hF
    refine ab_callSi X S (c_X9_in l D cA sz e9) mi_X9_in lm_X9_343 lt_yX9_in (As := [.int p3, .int 0, .int 30]) (rest := []) rfl ⟨by decide, by decide⟩ ⟨by decide, by decide⟩ hl.1 rfl (by simp [ab_cat, ab_cI, ab_cJ, ab_cD, ab_cF]) dX9_tolerance_13 (fun H1 locs1 S => ?_)
    refine lv_if_eq (tgt := 32) X.1 X.2.1 dX9_tolerance_16 (by decide) (fun c10 => ?_) (fun c10 => ?_)
    · have hF := ab_pos c10 hF
      exact w_X9_tolerance_32 X hr  S (lv_sub hl [] rfl) hF
    · have hF := ab_neg c10 hF
      refine lv_lload_n X.1 X.2.1 dX9_tolerance_19 rfl (lv_at hl 2 rfl) ?_
      refine lv_lconst (v := 1) X.1 X.2.1 dX9_tolerance_20 (by decide) ?_
      refine W.lcmp X.1 X.2.1 dX9_tolerance_21 ?_
      refine lv_if_lt (tgt := 32) X.1 X.2.1 dX9_tolerance_22 (by decide) (fun c11 => ?_) (fun c11 => ?_)
      · have hF := ab_pos c11 hF
        exact w_X9_tolerance_32 X hr  S (lv_sub hl [] rfl) hF
      · have hF := ab_neg c11 hF
        refine lv_lload X.1 X.2.1 dX9_tolerance_25 (lv_at hl 3 rfl) ?_
        refine lv_lconst (v := 0) X.1 X.2.1 dX9_tolerance_27 (by decide) ?_
        refine W.lcmp X.1 X.2.1 dX9_tolerance_28 ?_
        refine lv_if_ge (tgt := 34) X.1 X.2.1 dX9_tolerance_29 (by decide) (fun c12 => ?_) (fun c12 => ?_)
        · have hF := ab_pos c12 hF
          refine ab_aload_n X dX9_tolerance_34 rfl (lv_at hl 0 rfl) ?_
          refine ab_getR X S hF fi_9_27 lf_X9_89 dX9_tolerance_35 (fun x13 hF => ?_)
          refine lv_iload_n X.1 X.2.1 dX9_tolerance_38 rfl (lv_at hl 1 rfl) ?_
          refine lv_lload_n X.1 X.2.1 dX9_tolerance_39 rfl (lv_at hl 2 rfl) ?_
          refine lv_iload X.1 X.2.1 dX9_tolerance_40 (lv_at hl 4 rfl) ?_
          obtain ⟨x14, h15, e16, hF⟩ := bnd_out hF
          refine ab_callSd X S (c_X9_number l D cA sz e16) mi_X9_number lm_X9_354 lt_yX9_number (As := [.long p1, .int p3]) (rest := [.int p0, va_rf x13]) rfl ⟨by decide, by decide⟩ ⟨by decide, by decide⟩ hl.1 rfl (by simp [ab_cat, ab_cI, ab_cJ, ab_cD, ab_cF]) dX9_tolerance_42 (fun H1 locs1 S => ?_)
          refine ab_astD X S hF dX9_tolerance_45 (fun h17 H1 locs1 hF S => ?_)
          refine ab_aload_n X dX9_tolerance_46 rfl (lv_at hl 0 rfl) ?_
          refine ab_getR X S hF fi_9_28 lf_X9_92 dX9_tolerance_47 (fun x18 hF => ?_)
          refine lv_iload_n X.1 X.2.1 dX9_tolerance_50 rfl (lv_at hl 1 rfl) ?_
          refine lv_lload X.1 X.2.1 dX9_tolerance_51 (lv_at hl 3 rfl) ?_
          refine lv_iload X.1 X.2.1 dX9_tolerance_53 (lv_at hl 4 rfl) ?_
          obtain ⟨x19, h20, e21, hF⟩ := bnd_out hF
          refine ab_callSd X S (c_X9_number l D cA sz e21) mi_X9_number lm_X9_354 lt_yX9_number (As := [.long p2, .int p3]) (rest := [.int p0, va_rf x18]) rfl ⟨by decide, by decide⟩ ⟨by decide, by decide⟩ hl.1 rfl (by simp [ab_cat, ab_cI, ab_cJ, ab_cD, ab_cF]) dX9_tolerance_55 (fun H1 locs1 S => ?_)
          refine ab_astD X S hF dX9_tolerance_58 (fun h22 H1 locs1 hF S => ?_)
          refine lv_iconst (v := 1) X.1 X.2.1 dX9_tolerance_59 (by decide) ?_
          exact ab_iret X S hr hF dX9_tolerance_60
        · have hF := ab_neg c12 hF
          exact w_X9_tolerance_32 X hr  S (lv_sub hl [] rfl) hF
def f_X9_event_48   (h : Hp) : Option (Int32 × Hp) :=
  some ((-1), h)
set_option maxHeartbeats 4000000 in
set_option maxRecDepth 100000 in
theorem w_X9_event_48 {p : Program} {l : Launch} {e : Env} {s : State} {m : MethodId} {args : Array Value} {below : List Frame} {meth : Method} {c : Code} {D : va_G} {cA : Nat → ClassId} {sz : Nat} {rr : Int32} {hh : Hp}  (X : ab_X p s m args meth c cX9_event 7 RX9 D cA sz) (hr : meth.sig.returnType = (some .int))  {H : Heap} {locs : List Loc} {ls : Array Slot}  {h : Hp} (S : ab_H D cA sz h s H locs) (hl : lv_has ls 7 []) (hF : f_X9_event_48  h = some (rr, hh)) : W p l e (ab_rm 2 0 0) s m args below meth c H locs 0 0 (MQ below (ab_Q D cA sz (some (.int rr)) hh) args s 0 0 (fun q => sz ≤ q)) (F0 m 48 ls []) := by
  unfold f_X9_event_48 at hF
  refine lv_iconst (v := (-1)) X.1 X.2.1 dX9_event_48 (by decide) ?_
  exact ab_iret X S hr hF dX9_event_49
def f_X9_event (this : Nat) (p0 : Int32) (p1 : Int32) (p2 : Int32) (p3 : Int32) (p4 : Int32) (h : Hp) : Option (Int32 × Hp) :=
  (ab_ck h (some this) (9, 0)).bind fun a4 =>
  bnd (f_X9_isRun a4 p0 h) fun x1 h2 =>
  if x1 = 0 then
    f_X9_event_48 h2
  else
    (getR h2 (some this) 9 2).bind fun x7 =>
    (getR h2 (some this) 9 15).bind fun x8 =>
    (aldI h2 x8 11 p0).bind fun x9 =>
    (aldI h2 x7 11 x9).bind fun x10 =>
    bnd (f_X9_in p1 0 (x10 - 1) h2) fun x11 h12 =>
    if x11 = 0 then
      f_X9_event_48 h12
    else
      bnd (f_X9_in p2 (-1) 1 h12) fun x15 h16 =>
      if x15 = 0 then
        f_X9_event_48 h16
      else
        bnd (f_X9_in p3 0 3 h16) fun x19 h20 =>
        if ¬ x19 = 0 then
          (getR h20 (some this) 9 17).bind fun x23 =>
          (aldI h20 x23 11 p0).bind fun x24 =>
          if ¬ x24 = 4 then
            (getR h20 (some this) 9 17).bind fun x26 =>
            (aldI h20 x26 11 p0).bind fun x27 =>
            (getR h20 (some this) 9 31).bind fun x28 =>
            (astI h20 x28 ((4 * p0) + x27) p1).bind fun h29 =>
            (getR h29 (some this) 9 32).bind fun x30 =>
            (astI h29 x30 ((4 * p0) + x27) p2).bind fun h31 =>
            (getR h31 (some this) 9 33).bind fun x32 =>
            (astI h31 x32 ((4 * p0) + x27) p3).bind fun h33 =>
            (getR h33 (some this) 9 34).bind fun x34 =>
            (astI h33 x34 ((4 * p0) + x27) p4).bind fun h35 =>
            (getR h35 (some this) 9 17).bind fun x36 =>
            (aldI h35 x36 11 p0).bind fun x37 =>
            (astI h35 x36 p0 (x37 + 1)).bind fun h38 =>
            (getR h38 (some this) 9 17).bind fun x39 =>
            (aldI h38 x39 11 p0).bind fun x40 =>
            some (x40 - 1, h38)
          else
            some ((-3), h20)
        else
          f_X9_event_48 h20
theorem mi_X9_event : ab_MI yX9_event cX9_event 7 (some .int) 5 := ⟨lc_yX9_event, lz_RX9, by decide, by decide, by decide +kernel⟩
set_option maxHeartbeats 4000000 in
set_option maxRecDepth 100000 in
theorem c_X9_event (l : Launch) (D : va_G) (cA : Nat → ClassId) (sz : Nat) {this : Nat} {p0 : Int32} {p1 : Int32} {p2 : Int32} {p3 : Int32} {p4 : Int32} {h hh : Hp} {rr : Int32} (hF : f_X9_event this p0 p1 p2 p3 p4 h = some (rr, hh)) : ab_C l D cA sz yX9_event cX9_event 7 (some .int) 2 0 0 [.ref this, .int p0, .int p1, .int p2, .int p3, .int p4] h (some (.int rr)) hh := by
  refine Met.ofW (cc := cX9_event) (maxL := 7) (ret := (some .int)) (by decide) rfl ?_
  intro p e s m args below meth c s₁ B hml hv
  obtain ⟨rfl, hT, hR⟩ := hv
  have X : ab_X p s m _ meth c cX9_event 7 RX9 D cA sz := (ab_enter B hml hT hR).1
  have S := (ab_enter B hml hT hR).2
  have hr := B.returns
  obtain ⟨ls, hls, hl⟩ := ab_entry m [.ref this, .int p0, .int p1, .int p2, .int p3, .int p4] 7 (lv := [(0, .ref this), (1, .int p0), (2, .int p1), (3, .int p2), (4, .int p3), (5, .int p4)]) (by simp [lg_sl, ab_cat, ab_cI, ab_cJ, ab_cD, ab_cF, ab_cA]) (by simp [lv_args, ab_cat, ab_cI, ab_cJ, ab_cD, ab_cF, ab_cA])
  rw [hls]
  have hl : lv_has ls 7 [(0, va_rf (some this)), (1, .int p0), (2, .int p1), (3, .int p2), (4, .int p3), (5, .int p4)] := hl
  unfold f_X9_event at hF
  show W p l e (ab_rm 2 0 0) s m _ below meth c s.heap [] 0 0 _ _
  refine ab_aload_n X dX9_event_0 rfl (lv_at hl 0 rfl) ?_
  refine lv_iload_n X.1 X.2.1 dX9_event_1 rfl (lv_at hl 1 rfl) ?_
  obtain ⟨a4, e5, hF⟩ := bind_out hF
  obtain ⟨x1, h2, e3, hF⟩ := bnd_out hF
  refine ab_callVi X S e5 (c_X9_isRun l D cA sz e3) rfl (by decide) mi_X9_isRun lm_X9_366 li_yX9_isRun ls_yX9_isRun (As := [.int p0]) (rest := []) rfl ⟨by decide, by decide⟩ ⟨by decide, by decide⟩ hl.1 rfl (by simp [ab_cat, ab_cI, ab_cJ, ab_cD, ab_cF]) dX9_event_2 (fun H1 locs1 S => ?_)
  refine lv_if_eq (tgt := 48) X.1 X.2.1 dX9_event_5 (by decide) (fun c6 => ?_) (fun c6 => ?_)
  · have hF := ab_pos c6 hF
    exact w_X9_event_48 X hr  S (lv_sub hl [] rfl) hF
  · have hF := ab_neg c6 hF
    refine lv_iload_n X.1 X.2.1 dX9_event_8 rfl (lv_at hl 2 rfl) ?_
    refine lv_iconst (v := 0) X.1 X.2.1 dX9_event_9 (by decide) ?_
    refine ab_aload_n X dX9_event_10 rfl (lv_at hl 0 rfl) ?_
    refine ab_getR X S hF fi_9_2 lf_X9_18 dX9_event_11 (fun x7 hF => ?_)
    refine ab_aload_n X dX9_event_14 rfl (lv_at hl 0 rfl) ?_
    refine ab_getR X S hF fi_9_15 lf_X9_52 dX9_event_15 (fun x8 hF => ?_)
    refine lv_iload_n X.1 X.2.1 dX9_event_18 rfl (lv_at hl 1 rfl) ?_
    refine ab_aldI X S hF dX9_event_19 (fun x9 hF => ?_)
    refine ab_aldI X S hF dX9_event_20 (fun x10 hF => ?_)
    refine lv_iconst (v := 1) X.1 X.2.1 dX9_event_21 (by decide) ?_
    refine lv_isub X.1 X.2.1 dX9_event_22 ?_
    obtain ⟨x11, h12, e13, hF⟩ := bnd_out hF
    refine ab_callSi X S (c_X9_in l D cA sz e13) mi_X9_in lm_X9_343 lt_yX9_in (As := [.int p1, .int 0, .int (x10 - 1)]) (rest := []) rfl ⟨by decide, by decide⟩ ⟨by decide, by decide⟩ hl.1 rfl (by simp [ab_cat, ab_cI, ab_cJ, ab_cD, ab_cF]) dX9_event_23 (fun H1 locs1 S => ?_)
    refine lv_if_eq (tgt := 48) X.1 X.2.1 dX9_event_26 (by decide) (fun c14 => ?_) (fun c14 => ?_)
    · have hF := ab_pos c14 hF
      exact w_X9_event_48 X hr  S (lv_sub hl [] rfl) hF
    · have hF := ab_neg c14 hF
      refine lv_iload_n X.1 X.2.1 dX9_event_29 rfl (lv_at hl 3 rfl) ?_
      refine lv_iconst (v := (-1)) X.1 X.2.1 dX9_event_30 (by decide) ?_
      refine lv_iconst (v := 1) X.1 X.2.1 dX9_event_31 (by decide) ?_
      obtain ⟨x15, h16, e17, hF⟩ := bnd_out hF
      refine ab_callSi X S (c_X9_in l D cA sz e17) mi_X9_in lm_X9_343 lt_yX9_in (As := [.int p2, .int (-1), .int 1]) (rest := []) rfl ⟨by decide, by decide⟩ ⟨by decide, by decide⟩ hl.1 rfl (by simp [ab_cat, ab_cI, ab_cJ, ab_cD, ab_cF]) dX9_event_32 (fun H1 locs1 S => ?_)
      refine lv_if_eq (tgt := 48) X.1 X.2.1 dX9_event_35 (by decide) (fun c18 => ?_) (fun c18 => ?_)
      · have hF := ab_pos c18 hF
        exact w_X9_event_48 X hr  S (lv_sub hl [] rfl) hF
      · have hF := ab_neg c18 hF
        refine lv_iload X.1 X.2.1 dX9_event_38 (lv_at hl 4 rfl) ?_
        refine lv_iconst (v := 0) X.1 X.2.1 dX9_event_40 (by decide) ?_
        refine lv_iconst (v := 3) X.1 X.2.1 dX9_event_41 (by decide) ?_
        obtain ⟨x19, h20, e21, hF⟩ := bnd_out hF
        refine ab_callSi X S (c_X9_in l D cA sz e21) mi_X9_in lm_X9_343 lt_yX9_in (As := [.int p3, .int 0, .int 3]) (rest := []) rfl ⟨by decide, by decide⟩ ⟨by decide, by decide⟩ hl.1 rfl (by simp [ab_cat, ab_cI, ab_cJ, ab_cD, ab_cF]) dX9_event_42 (fun H1 locs1 S => ?_)
        refine lv_if_ne (tgt := 50) X.1 X.2.1 dX9_event_45 (by decide) (fun c22 => ?_) (fun c22 => ?_)
        · have hF := ab_pos c22 hF
          refine ab_aload_n X dX9_event_50 rfl (lv_at hl 0 rfl) ?_
          refine ab_getR X S hF fi_9_17 lf_X9_58 dX9_event_51 (fun x23 hF => ?_)
          refine lv_iload_n X.1 X.2.1 dX9_event_54 rfl (lv_at hl 1 rfl) ?_
          refine ab_aldI X S hF dX9_event_55 (fun x24 hF => ?_)
          refine lv_iconst (v := 4) X.1 X.2.1 dX9_event_56 (by decide) ?_
          refine lv_icmp_ne (tgt := 63) X.1 X.2.1 dX9_event_57 (by decide) (fun c25 => ?_) (fun c25 => ?_)
          · have hF := ab_pos c25 hF
            refine lv_iconst (v := 4) X.1 X.2.1 dX9_event_63 (by decide) ?_
            refine lv_iload_n X.1 X.2.1 dX9_event_64 rfl (lv_at hl 1 rfl) ?_
            refine lv_imul X.1 X.2.1 dX9_event_65 ?_
            refine ab_aload_n X dX9_event_66 rfl (lv_at hl 0 rfl) ?_
            refine ab_getR X S hF fi_9_17 lf_X9_58 dX9_event_67 (fun x26 hF => ?_)
            refine lv_iload_n X.1 X.2.1 dX9_event_70 rfl (lv_at hl 1 rfl) ?_
            refine ab_aldI X S hF dX9_event_71 (fun x27 hF => ?_)
            refine lv_iadd X.1 X.2.1 dX9_event_72 ?_
            refine lv_istore (lv' := [(6, .int ((4 * p0) + x27)), (0, va_rf (some this)), (1, .int p0), (2, .int p1), (3, .int p2), (4, .int p3), (5, .int p4)]) X.1 X.2.1 dX9_event_73 hl (by decide) (by simp [ab_cat, ab_cI, ab_cJ, ab_cD, ab_cF]) (fun ls hl => ?_)
            refine ab_aload_n X dX9_event_75 rfl (lv_at hl 1 rfl) ?_
            refine ab_getR X S hF fi_9_31 lf_X9_101 dX9_event_76 (fun x28 hF => ?_)
            refine lv_iload X.1 X.2.1 dX9_event_79 (lv_at hl 0 rfl) ?_
            refine lv_iload_n X.1 X.2.1 dX9_event_81 rfl (lv_at hl 3 rfl) ?_
            refine ab_astI X S hF dX9_event_82 (fun h29 H1 locs1 hF S => ?_)
            refine ab_aload_n X dX9_event_83 rfl (lv_at hl 1 rfl) ?_
            refine ab_getR X S hF fi_9_32 lf_X9_104 dX9_event_84 (fun x30 hF => ?_)
            refine lv_iload X.1 X.2.1 dX9_event_87 (lv_at hl 0 rfl) ?_
            refine lv_iload_n X.1 X.2.1 dX9_event_89 rfl (lv_at hl 4 rfl) ?_
            refine ab_astI X S hF dX9_event_90 (fun h31 H1 locs1 hF S => ?_)
            refine ab_aload_n X dX9_event_91 rfl (lv_at hl 1 rfl) ?_
            refine ab_getR X S hF fi_9_33 lf_X9_107 dX9_event_92 (fun x32 hF => ?_)
            refine lv_iload X.1 X.2.1 dX9_event_95 (lv_at hl 0 rfl) ?_
            refine lv_iload X.1 X.2.1 dX9_event_97 (lv_at hl 5 rfl) ?_
            refine ab_astI X S hF dX9_event_99 (fun h33 H1 locs1 hF S => ?_)
            refine ab_aload_n X dX9_event_100 rfl (lv_at hl 1 rfl) ?_
            refine ab_getR X S hF fi_9_34 lf_X9_110 dX9_event_101 (fun x34 hF => ?_)
            refine lv_iload X.1 X.2.1 dX9_event_104 (lv_at hl 0 rfl) ?_
            refine lv_iload X.1 X.2.1 dX9_event_106 (lv_at hl 6 rfl) ?_
            refine ab_astI X S hF dX9_event_108 (fun h35 H1 locs1 hF S => ?_)
            refine ab_aload_n X dX9_event_109 rfl (lv_at hl 1 rfl) ?_
            refine ab_getR X S hF fi_9_17 lf_X9_58 dX9_event_110 (fun x36 hF => ?_)
            refine lv_iload_n X.1 X.2.1 dX9_event_113 rfl (lv_at hl 2 rfl) ?_
            refine lv_dup2_11 X.1 X.2.1 dX9_event_114 (by simp [ab_cat, ab_cI, ab_cJ, ab_cD, ab_cF]) (by simp [ab_cat, ab_cI, ab_cJ, ab_cD, ab_cF]) ?_
            refine ab_aldI X S hF dX9_event_115 (fun x37 hF => ?_)
            refine lv_iconst (v := 1) X.1 X.2.1 dX9_event_116 (by decide) ?_
            refine lv_iadd X.1 X.2.1 dX9_event_117 ?_
            refine ab_astI X S hF dX9_event_118 (fun h38 H1 locs1 hF S => ?_)
            refine ab_aload_n X dX9_event_119 rfl (lv_at hl 1 rfl) ?_
            refine ab_getR X S hF fi_9_17 lf_X9_58 dX9_event_120 (fun x39 hF => ?_)
            refine lv_iload_n X.1 X.2.1 dX9_event_123 rfl (lv_at hl 2 rfl) ?_
            refine ab_aldI X S hF dX9_event_124 (fun x40 hF => ?_)
            refine lv_iconst (v := 1) X.1 X.2.1 dX9_event_125 (by decide) ?_
            refine lv_isub X.1 X.2.1 dX9_event_126 ?_
            exact ab_iret X S hr hF dX9_event_127
          · have hF := ab_neg (fun q => q c25) hF
            refine lv_bipush (v := (-3)) X.1 X.2.1 dX9_event_60 (by decide) ?_
            exact ab_iret X S hr hF dX9_event_62
        · have hF := ab_neg (fun q => q c22) hF
          exact w_X9_event_48 X hr  S (lv_sub hl [] rfl) hF
