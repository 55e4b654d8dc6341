def f_X8_advance_126 (k_6 : Option Nat → Option Nat → Int32 → UInt64 → UInt64 → Int32 → Hp → Option (Int32 × Hp)) (v0 : Option Nat) (v1 : Option Nat) (v4 : Int32) (v5 : UInt64) (v9 : Int32) (u0 : UInt64) (h : Hp) : Option (Int32 × Hp) :=
  bnd (f_X8_size u0 h) fun x1 h2 =>
  bnd (f_X8_isTooSmall x1 h2) fun x4 h5 =>
  if x4 = 0 then
    k_6 v0 v1 v4 v5 u0 (v9 + 1) h5
  else
    some ((-5), h5)
set_option maxHeartbeats 4000000 in
set_option maxRecDepth 100000 in
theorem w_X8_advance_126 {p : Program} {l : Launch} {e : Env} {s : State} {m : MethodId} {args : Array Value} {below : List Frame} {meth : Method} {c : Code} {D : va_G} {cA : Nat → ClassId} {sz : Nat} {rr : Int32} {hh : Hp} {k_6 : Option Nat → Option Nat → Int32 → UInt64 → UInt64 → Int32 → Hp → Option (Int32 × Hp)} (X : ab_X p s m args meth c cX8_advance 10 RX8 D cA sz) (hr : meth.sig.returnType = (some .int)) (hk_6 : ∀ (v0 : Option Nat) (v1 : Option Nat) (v4 : Int32) (v5 : UInt64) (v7 : UInt64) (v9 : Int32) (h : Hp) (H : Heap) (locs : List Loc) (ls : Array Slot), ab_H D cA sz h s H locs → lv_has ls 10 [(0, va_rf v0), (1, va_rf v1), (4, .int v4), (5, .double v5), (7, .double v7), (9, .int v9)] → k_6 v0 v1 v4 v5 v7 v9 h = some (rr, hh) → W p l e (ab_rm 6 0 0) s m args below meth c H locs 0 0 (MQ below (ab_Q D cA sz (some (.int rr)) hh) args s 0 0 (fun q => sz ≤ q)) (F0 m 6 ls [])) {H : Heap} {locs : List Loc} {ls : Array Slot} {v0 : Option Nat} {v1 : Option Nat} {v4 : Int32} {v5 : UInt64} {v9 : Int32} {u0 : UInt64} {h : Hp} (S : ab_H D cA sz h s H locs) (hl : lv_has ls 10 [(0, va_rf v0), (1, va_rf v1), (4, .int v4), (5, .double v5), (9, .int v9)]) (hF : f_X8_advance_126 k_6 v0 v1 v4 v5 v9 u0 h = some (rr, hh)) : W p l e (ab_rm 6 0 0) s m args below meth c H locs 0 0 (MQ below (ab_Q D cA sz (some (.int rr)) hh) args s 0 0 (fun q => sz ≤ q)) (F0 m 126 ls [.double u0]) := by
  unfold f_X8_advance_126 at hF
  refine lv_dstore (lv' := [(7, .double u0), (0, va_rf v0), (1, va_rf v1), (4, .int v4), (5, .double v5), (9, .int v9)]) X.1 X.2.1 dX8_advance_126 hl (by decide) (by simp [ab_cat, ab_cI, ab_cJ, ab_cD, ab_cF]) (fun ls hl => ?_)
  refine lv_dload X.1 X.2.1 dX8_advance_128 (lv_at hl 0 rfl) ?_
  obtain ⟨x1, h2, e3, hF⟩ := bnd_out hF
  refine ab_callSd X S (c_X8_size l D cA sz e3) mi_X8_size lm_X8_146 lt_yX8_size (As := [.double u0]) (rest := []) rfl ⟨by decide, by decide⟩ ⟨(by decide), (by decide)⟩ hl.1 rfl (by simp [ab_cat, ab_cI, ab_cJ, ab_cD, ab_cF]) dX8_advance_130 (fun H1 locs1 S => ?_)
  obtain ⟨x4, h5, e6, hF⟩ := bnd_out hF
  refine ab_callSi X S (c_X8_isTooSmall l D cA sz e6) mi_X8_isTooSmall lm_X8_152 lt_yX8_isTooSmall (As := [.double x1]) (rest := []) rfl ⟨by decide, by decide⟩ ⟨(by decide), (by decide)⟩ hl.1 rfl (by simp [ab_cat, ab_cI, ab_cJ, ab_cD, ab_cF]) dX8_advance_133 (fun H1 locs1 S => ?_)
  refine lv_if_eq (tgt := 142) X.1 X.2.1 dX8_advance_136 (by decide) (fun c7 => ?_) (fun c7 => ?_)
  · have hF := ab_pos c7 hF
    refine lv_iinc (v := v9 + 1) (lv' := [(9, .int (v9 + 1)), (7, .double u0), (0, va_rf v0), (1, va_rf v1), (4, .int v4), (5, .double v5)]) X.1 X.2.1 dX8_advance_142 hl (k := 5) rfl (by rfl) (by decide) (by simp [ab_cat, ab_cI, ab_cJ, ab_cD, ab_cF]) (fun ls hl => ?_)
    refine lv_goto (tgt := 6) X.1 X.2.1 dX8_advance_145 (by decide) ?_
    exact hk_6 _ _ _ _ _ _ _ _ _ _ S (lv_sub hl [2, 3, 4, 5, 1, 0] rfl) hF
  · have hF := ab_neg c7 hF
    refine lv_bipush (v := (-5)) X.1 X.2.1 dX8_advance_139 (by decide) ?_
    exact ab_iret X S hr hF dX8_advance_141
def f_X8_advance_67 (k_6 : Option Nat → Option Nat → Int32 → UInt64 → UInt64 → Int32 → Hp → Option (Int32 × Hp)) (v0 : Option Nat) (v1 : Option Nat) (v4 : Int32) (v5 : UInt64) (v7 : UInt64) (v9 : Int32) (h : Hp) : Option (Int32 × Hp) :=
  (getR h v0 8 9).bind fun x1 =>
  (getD h x1 6 12).bind fun x2 =>
  if 0 < (Op.cmpValue (FP.dcmp x2 FP.dconst1) CmpOp.g) then
    (getR h v0 8 9).bind fun x4 =>
    (getD h x4 6 12).bind fun x5 =>
    if 0 < (Op.cmpValue (FP.dcmp x5 4620693217682128896) CmpOp.g) then
      (fop (FP.ddiv v7 4616189618054758400)).bind fun x7 =>
      f_X8_advance_126 k_6 v0 v1 v4 v5 v9 x7 h
    else
      (fop (FP.ddiv v7 4611686018427387904)).bind fun x8 =>
      f_X8_advance_126 k_6 v0 v1 v4 v5 v9 x8 h
  else
    (ab_ck h v0 (8, 0)).bind fun a12 =>
    bnd (f_X8_finish a12 v1 v9 v4 v5 h) fun _ h10 =>
    (ab_ck h10 v1 (4, 0)).bind fun a17 =>
    bnd (f_X4_lookAtEvents a17 h10) fun _ h15 =>
    some (v9, h15)
set_option maxHeartbeats 4000000 in
set_option maxRecDepth 100000 in
theorem w_X8_advance_67 {p : Program} {l : Launch} {e : Env} {s : State} {m : MethodId} {args : Array Value} {below : List Frame} {meth : Method} {c : Code} {D : va_G} {cA : Nat → ClassId} {sz : Nat} {rr : Int32} {hh : Hp} {k_6 : Option Nat → Option Nat → Int32 → UInt64 → UInt64 → Int32 → Hp → Option (Int32 × Hp)} (X : ab_X p s m args meth c cX8_advance 10 RX8 D cA sz) (hr : meth.sig.returnType = (some .int)) (hk_6 : ∀ (v0 : Option Nat) (v1 : Option Nat) (v4 : Int32) (v5 : UInt64) (v7 : UInt64) (v9 : Int32) (h : Hp) (H : Heap) (locs : List Loc) (ls : Array Slot), ab_H D cA sz h s H locs → lv_has ls 10 [(0, va_rf v0), (1, va_rf v1), (4, .int v4), (5, .double v5), (7, .double v7), (9, .int v9)] → k_6 v0 v1 v4 v5 v7 v9 h = some (rr, hh) → W p l e (ab_rm 6 0 0) s m args below meth c H locs 0 0 (MQ below (ab_Q D cA sz (some (.int rr)) hh) args s 0 0 (fun q => sz ≤ q)) (F0 m 6 ls [])) {H : Heap} {locs : List Loc} {ls : Array Slot} {v0 : Option Nat} {v1 : Option Nat} {v4 : Int32} {v5 : UInt64} {v7 : UInt64} {v9 : Int32} {h : Hp} (S : ab_H D cA sz h s H locs) (hl : lv_has ls 10 [(0, va_rf v0), (1, va_rf v1), (4, .int v4), (5, .double v5), (7, .double v7), (9, .int v9)]) (hF : f_X8_advance_67 k_6 v0 v1 v4 v5 v7 v9 h = some (rr, hh)) : W p l e (ab_rm 6 0 0) s m args below meth c H locs 0 0 (MQ below (ab_Q D cA sz (some (.int rr)) hh) args s 0 0 (fun q => sz ≤ q)) (F0 m 67 ls []) := by
  unfold f_X8_advance_67 at hF
  refine ab_aload_n X dX8_advance_67 rfl (lv_at hl 0 rfl) ?_
  refine ab_getR X S hF fi_8_9 lf_X8_49 dX8_advance_68 (fun x1 hF => ?_)
  refine ab_getD X S hF fi_6_12 lf_X8_203 dX8_advance_71 (fun x2 hF => ?_)
  refine lv_dconst1 X.1 X.2.1 dX8_advance_74 ?_
  refine lv_dcmp X.1 X.2.1 dX8_advance_75 ?_
  refine lv_if_gt (tgt := 97) X.1 X.2.1 dX8_advance_76 (by decide) (fun c3 => ?_) (fun c3 => ?_)
  · have hF := ab_pos c3 hF
    refine ab_aload_n X dX8_advance_97 rfl (lv_at hl 0 rfl) ?_
    refine ab_getR X S hF fi_8_9 lf_X8_49 dX8_advance_98 (fun x4 hF => ?_)
    refine ab_getD X S hF fi_6_12 lf_X8_203 dX8_advance_101 (fun x5 hF => ?_)
    refine lv_ldc2d (v := 4620693217682128896) X.1 X.2.1 X.2.2.2.1 (X.2.2.2.2.1 _ ld_X8_299) dX8_advance_104 ?_
    refine lv_dcmp X.1 X.2.1 dX8_advance_107 ?_
    refine lv_if_gt (tgt := 120) X.1 X.2.1 dX8_advance_108 (by decide) (fun c6 => ?_) (fun c6 => ?_)
    · have hF := ab_pos c6 hF
      refine lv_dload X.1 X.2.1 dX8_advance_120 (lv_at hl 4 rfl) ?_
      refine lv_ldc2d (v := 4616189618054758400) X.1 X.2.1 X.2.2.2.1 (X.2.2.2.2.1 _ ld_X8_301) dX8_advance_122 ?_
      obtain ⟨x7, ev, ne, hF⟩ := ab_fopx hF
      refine lv_ddiv X.1 X.2.1 dX8_advance_125 ne ?_
      rw [ev]
      exact w_X8_advance_126 X hr hk_6 S (lv_sub hl [0, 1, 2, 3, 5] rfl) hF
    · have hF := ab_neg c6 hF
      refine lv_dload X.1 X.2.1 dX8_advance_111 (lv_at hl 4 rfl) ?_
      refine lv_ldc2d (v := 4611686018427387904) X.1 X.2.1 X.2.2.2.1 (X.2.2.2.2.1 _ ld_X8_263) dX8_advance_113 ?_
      obtain ⟨x8, ev, ne, hF⟩ := ab_fopx hF
      refine lv_ddiv X.1 X.2.1 dX8_advance_116 ne ?_
      rw [ev]
      refine lv_goto (tgt := 126) X.1 X.2.1 dX8_advance_117 (by decide) ?_
      exact w_X8_advance_126 X hr hk_6 S (lv_sub hl [0, 1, 2, 3, 5] rfl) hF
  · have hF := ab_neg c3 hF
    refine ab_aload_n X dX8_advance_79 rfl (lv_at hl 0 rfl) ?_
    refine ab_aload_n X dX8_advance_80 rfl (lv_at hl 1 rfl) ?_
    refine lv_iload X.1 X.2.1 dX8_advance_81 (lv_at hl 5 rfl) ?_
    refine lv_iload X.1 X.2.1 dX8_advance_83 (lv_at hl 2 rfl) ?_
    refine lv_dload X.1 X.2.1 dX8_advance_85 (lv_at hl 3 rfl) ?_
    obtain ⟨a12, e13, hF⟩ := bind_out hF
    obtain ⟨x9, h10, e11, hF⟩ := bnd_out hF
    refine ab_callVv X S e13 (c_X8_finish l D cA sz e11) rfl (by decide) mi_X8_finish lm_X8_292 li_yX8_finish ls_yX8_finish (As := [va_rf v1, .int v9, .int v4, .double v5]) (rest := []) rfl ⟨by decide, by decide⟩ ⟨(by decide), (by decide)⟩ hl.1 rfl (by simp [ab_cat, ab_cI, ab_cJ, ab_cD, ab_cF]) dX8_advance_87 (fun H1 locs1 S => ?_)
    refine ab_aload_n X dX8_advance_90 rfl (lv_at hl 1 rfl) ?_
    obtain ⟨a17, e18, hF⟩ := bind_out hF
    obtain ⟨x14, h15, e16, hF⟩ := bnd_out hF
    refine ab_callVv X S e18 (c_X4_lookAtEvents l D cA sz e16) rfl (by decide) mi_X4_lookAtEvents lm_X8_296 li_yX4_lookAtEvents ls_yX4_lookAtEvents (As := []) (rest := []) rfl ⟨by decide, by decide⟩ ⟨(by decide), (by decide)⟩ hl.1 rfl (by simp [ab_cat, ab_cI, ab_cJ, ab_cD, ab_cF]) dX8_advance_91 (fun H1 locs1 S => ?_)
    refine lv_iload X.1 X.2.1 dX8_advance_94 (lv_at hl 5 rfl) ?_
    exact ab_iret X S hr hF dX8_advance_96
def f_X8_advance_6  : Nat → Option Nat → Option Nat → Int32 → UInt64 → UInt64 → Int32 → Hp → Option (Int32 × Hp)
  | 0, _, _, _, _, _, _, _ => none
  | n + 1, v0, v1, v4, v5, v7, v9, h => if 20 ≤ v9 then
      some ((-5), h)
    else
      (getR h v0 8 9).bind fun x2 =>
      (getR h v1 4 0).bind fun x3 =>
      (getI h v1 4 3).bind fun x4 =>
      (getD h v1 4 1).bind fun x5 =>
      (getR h v1 4 2).bind fun x6 =>
      (ab_ck h x2 (6, 0)).bind fun a10 =>
      bnd (f_X6_make a10 x3 x4 x5 x6 v7 h) fun x7 h8 =>
      if ¬ x7 = 0 then
        (getI h8 v1 4 3).bind fun x13 =>
        if ¬ x13 = 4 then
          f_X8_advance_67 (f_X8_advance_6 n) v0 v1 v4 v5 v7 v9 h8
        else
          (getR h8 v0 8 9).bind fun x15 =>
          (getD h8 v1 4 5).bind fun x16 =>
          (getD h8 v1 4 6).bind fun x17 =>
          (ab_ck h8 x15 (6, 0)).bind fun a21 =>
          bnd (f_X6_judge a21 x16 x17 h8) fun _ h19 =>
          f_X8_advance_67 (f_X8_advance_6 n) v0 v1 v4 v5 v7 v9 h19
      else
        some ((-4), h8)
set_option maxHeartbeats 4000000 in
set_option maxRecDepth 100000 in
theorem w_X8_advance_6 {p : Program} {l : Launch} {e : Env} {s : State} {m : MethodId} {args : Array Value} {below : List Frame} {meth : Method} {c : Code} {D : va_G} {cA : Nat → ClassId} {sz : Nat} {rr : Int32} {hh : Hp}  (X : ab_X p s m args meth c cX8_advance 10 RX8 D cA sz) (hr : meth.sig.returnType = (some .int))  (n : Nat) : ∀ (v0 : Option Nat) (v1 : Option Nat) (v4 : Int32) (v5 : UInt64) (v7 : UInt64) (v9 : Int32) (h : Hp) (H : Heap) (locs : List Loc) (ls : Array Slot), ab_H D cA sz h s H locs → lv_has ls 10 [(0, va_rf v0), (1, va_rf v1), (4, .int v4), (5, .double v5), (7, .double v7), (9, .int v9)] → f_X8_advance_6 n v0 v1 v4 v5 v7 v9 h = some (rr, hh) → W p l e (ab_rm 6 0 0) s m args below meth c H locs 0 0 (MQ below (ab_Q D cA sz (some (.int rr)) hh) args s 0 0 (fun q => sz ≤ q)) (F0 m 6 ls []) := by
  induction n with
  | zero => intro v0 v1 v4 v5 v7 v9 h H locs ls S hl hF; cases hF
  | succ n ih =>
    intro v0 v1 v4 v5 v7 v9 h H locs ls S hl hF
    rw [f_X8_advance_6] at hF
    refine lv_iload X.1 X.2.1 dX8_advance_6 (lv_at hl 5 rfl) ?_
    refine lv_bipush (v := 20) X.1 X.2.1 dX8_advance_8 (by decide) ?_
    refine lv_icmp_ge (tgt := 148) X.1 X.2.1 dX8_advance_10 (by decide) (fun c1 => ?_) (fun c1 => ?_)
    · have hF := ab_pos c1 hF
      refine lv_bipush (v := (-5)) X.1 X.2.1 dX8_advance_148 (by decide) ?_
      exact ab_iret X S hr hF dX8_advance_150
    · have hF := ab_neg c1 hF
      refine ab_aload_n X dX8_advance_13 rfl (lv_at hl 0 rfl) ?_
      refine ab_getR X S hF fi_8_9 lf_X8_49 dX8_advance_14 (fun x2 hF => ?_)
      refine ab_aload_n X dX8_advance_17 rfl (lv_at hl 1 rfl) ?_
      refine ab_getR X S hF fi_4_0 lf_X8_92 dX8_advance_18 (fun x3 hF => ?_)
      refine ab_aload_n X dX8_advance_21 rfl (lv_at hl 1 rfl) ?_
      refine ab_getI X S hF fi_4_3 lf_X8_143 dX8_advance_22 (fun x4 hF => ?_)
      refine ab_aload_n X dX8_advance_25 rfl (lv_at hl 1 rfl) ?_
      refine ab_getD X S hF fi_4_1 lf_X8_179 dX8_advance_26 (fun x5 hF => ?_)
      refine ab_aload_n X dX8_advance_29 rfl (lv_at hl 1 rfl) ?_
      refine ab_getR X S hF fi_4_2 lf_X8_127 dX8_advance_30 (fun x6 hF => ?_)
      refine lv_dload X.1 X.2.1 dX8_advance_33 (lv_at hl 4 rfl) ?_
      obtain ⟨a10, e11, hF⟩ := bind_out hF
      obtain ⟨x7, h8, e9, hF⟩ := bnd_out hF
      refine ab_callVi X S e11 (c_X6_make l D cA sz e9) rfl (by decide) mi_X6_make lm_X8_265 li_yX6_make ls_yX6_make (As := [va_rf x3, .int x4, .double x5, va_rf x6, .double v7]) (rest := []) rfl ⟨by decide, by decide⟩ ⟨(by decide), (by decide)⟩ hl.1 rfl (by simp [ab_cat, ab_cI, ab_cJ, ab_cD, ab_cF]) dX8_advance_35 (fun H1 locs1 S => ?_)
      refine lv_if_ne (tgt := 44) X.1 X.2.1 dX8_advance_38 (by decide) (fun c12 => ?_) (fun c12 => ?_)
      · have hF := ab_pos c12 hF
        refine ab_aload_n X dX8_advance_44 rfl (lv_at hl 1 rfl) ?_
        refine ab_getI X S hF fi_4_3 lf_X8_143 dX8_advance_45 (fun x13 hF => ?_)
        refine lv_iconst (v := 4) X.1 X.2.1 dX8_advance_48 (by decide) ?_
        refine lv_icmp_ne (tgt := 67) X.1 X.2.1 dX8_advance_49 (by decide) (fun c14 => ?_) (fun c14 => ?_)
        · have hF := ab_pos c14 hF
          exact w_X8_advance_67 X hr ih S (lv_sub hl [0, 1, 2, 3, 4, 5] rfl) hF
        · have hF := ab_neg (fun q => q c14) hF
          refine ab_aload_n X dX8_advance_52 rfl (lv_at hl 0 rfl) ?_
          refine ab_getR X S hF fi_8_9 lf_X8_49 dX8_advance_53 (fun x15 hF => ?_)
          refine ab_aload_n X dX8_advance_56 rfl (lv_at hl 1 rfl) ?_
          refine ab_getD X S hF fi_4_5 lf_X8_160 dX8_advance_57 (fun x16 hF => ?_)
          refine ab_aload_n X dX8_advance_60 rfl (lv_at hl 1 rfl) ?_
          refine ab_getD X S hF fi_4_6 lf_X8_163 dX8_advance_61 (fun x17 hF => ?_)
          obtain ⟨a21, e22, hF⟩ := bind_out hF
          obtain ⟨x18, h19, e20, hF⟩ := bnd_out hF
          refine ab_callVv X S e22 (c_X6_judge l D cA sz e20) rfl (by decide) mi_X6_judge lm_X8_288 li_yX6_judge ls_yX6_judge (As := [.double x16, .double x17]) (rest := []) rfl ⟨by decide, by decide⟩ ⟨(by decide), (by decide)⟩ hl.1 rfl (by simp [ab_cat, ab_cI, ab_cJ, ab_cD, ab_cF]) dX8_advance_64 (fun H1 locs1 S => ?_)
          exact w_X8_advance_67 X hr ih S (lv_sub hl [0, 1, 2, 3, 4, 5] rfl) hF
      · have hF := ab_neg (fun q => q c12) hF
        refine lv_bipush (v := (-4)) X.1 X.2.1 dX8_advance_41 (by decide) ?_
        exact ab_iret X S hr hF dX8_advance_43
def f_X8_advance (this : Nat) (p0 : Option Nat) (p1 : UInt64) (p2 : Int32) (p3 : UInt64) (h : Hp) : Option (Int32 × Hp) :=
  f_X8_advance_6 fuelN (some this) p0 p2 p3 p1 0 h
theorem mi_X8_advance : ab_MI yX8_advance cX8_advance 10 (some .int) 4 := ⟨lc_yX8_advance, lz_RX8, by decide, by decide, by decide +kernel⟩
set_option maxHeartbeats 4000000 in
set_option maxRecDepth 100000 in
theorem c_X8_advance (l : Launch) (D : va_G) (cA : Nat → ClassId) (sz : Nat) {this : Nat} {p0 : Option Nat} {p1 : UInt64} {p2 : Int32} {p3 : UInt64} {h hh : Hp} {rr : Int32} (hF : f_X8_advance this p0 p1 p2 p3 h = some (rr, hh)) : ab_C l D cA sz yX8_advance cX8_advance 10 (some .int) 6 0 0 [.ref this, va_rf p0, .double p1, .int p2, .double p3] h (some (.int rr)) hh := by
  refine Met.ofW (cc := cX8_advance) (maxL := 10) (ret := (some .int)) (by decide) rfl ?_
  intro p e s m args below meth c s₁ B hml hv
  obtain ⟨rfl, hT, hR⟩ := hv
  have X : ab_X p s m _ meth c cX8_advance 10 RX8 D cA sz := (ab_enter B hml hT hR).1
  have S := (ab_enter B hml hT hR).2
  have hr := B.returns
  obtain ⟨ls, hls, hl⟩ := ab_entry m [.ref this, va_rf p0, .double p1, .int p2, .double p3] 10 (lv := [(0, .ref this), (1, va_rf p0), (2, .double p1), (4, .int p2), (5, .double p3)]) (by simp [lg_sl, ab_cat, ab_cI, ab_cJ, ab_cD, ab_cF, ab_cA]) (by simp [lv_args, ab_cat, ab_cI, ab_cJ, ab_cD, ab_cF, ab_cA])
  rw [hls]
  have hl : lv_has ls 10 [(0, va_rf (some this)), (1, va_rf p0), (2, .double p1), (4, .int p2), (5, .double p3)] := hl
  unfold f_X8_advance at hF
  show W p l e (ab_rm 6 0 0) s m _ below meth c s.heap [] 0 0 _ _
  refine lv_dload_n X.1 X.2.1 dX8_advance_0 rfl (lv_at hl 2 rfl) ?_
  refine lv_dstore (lv' := [(7, .double p1), (0, va_rf (some this)), (1, va_rf p0), (2, .double p1), (4, .int p2), (5, .double p3)]) X.1 X.2.1 dX8_advance_1 hl (by decide) (by simp [ab_cat, ab_cI, ab_cJ, ab_cD, ab_cF]) (fun ls hl => ?_)
  refine lv_iconst (v := 0) X.1 X.2.1 dX8_advance_3 (by decide) ?_
  refine lv_istore (lv' := [(9, .int 0), (7, .double p1), (0, va_rf (some this)), (1, va_rf p0), (2, .double p1), (4, .int p2), (5, .double p3)]) X.1 X.2.1 dX8_advance_4 hl (by decide) (by simp [ab_cat, ab_cI, ab_cJ, ab_cD, ab_cF]) (fun ls hl => ?_)
  exact w_X8_advance_6 X hr  fuelN _ _ _ _ _ _ _ _ _ _ S (lv_sub hl [2, 3, 5, 6, 1, 0] rfl) hF
def f_X8_step (this : Nat) (p0 : Int32) (h : Hp) : Option (Int32 × Hp) :=
  (ab_ck h (some this) (8, 0)).bind fun a4 =>
  bnd (f_X8_runAt a4 p0 h) fun x1 h2 =>
  if ¬ x1 = none then
    (getI h2 x1 4 7).bind fun x7 =>
    if x7 = 0 then
      (getD h2 x1 4 4).bind fun x9 =>
      (ab_ck h2 (some this) (8, 0)).bind fun a13 =>
      bnd (f_X8_advance a13 x1 x9 0 FP.dconst0 h2) fun x10 h11 =>
      some (x10, h11)
    else
      some ((-2), h2)
  else
    some ((-1), h2)
theorem mi_X8_step : ab_MI yX8_step cX8_step 3 (some .int) 1 := ⟨lc_yX8_step, lz_RX8, by decide, by decide, by decide +kernel⟩
set_option maxHeartbeats 4000000 in
set_option maxRecDepth 100000 in
theorem c_X8_step (l : Launch) (D : va_G) (cA : Nat → ClassId) (sz : Nat) {this : Nat} {p0 : Int32} {h hh : Hp} {rr : Int32} (hF : f_X8_step this p0 h = some (rr, hh)) : ab_C l D cA sz yX8_step cX8_step 3 (some .int) 7 0 0 [.ref this, .int p0] h (some (.int rr)) hh := by
  refine Met.ofW (cc := cX8_step) (maxL := 3) (ret := (some .int)) (by decide) rfl ?_
  intro p e s m args below meth c s₁ B hml hv
  obtain ⟨rfl, hT, hR⟩ := hv
  have X : ab_X p s m _ meth c cX8_step 3 RX8 D cA sz := (ab_enter B hml hT hR).1
  have S := (ab_enter B hml hT hR).2
  have hr := B.returns
  obtain ⟨ls, hls, hl⟩ := ab_entry m [.ref this, .int p0] 3 (lv := [(0, .ref this), (1, .int p0)]) (by simp [lg_sl, ab_cat, ab_cI, ab_cJ, ab_cD, ab_cF, ab_cA]) (by simp [lv_args, ab_cat, ab_cI, ab_cJ, ab_cD, ab_cF, ab_cA])
  rw [hls]
  have hl : lv_has ls 3 [(0, va_rf (some this)), (1, .int p0)] := hl
  unfold f_X8_step at hF
  show W p l e (ab_rm 7 0 0) s m _ below meth c s.heap [] 0 0 _ _
  refine ab_aload_n X dX8_step_0 rfl (lv_at hl 0 rfl) ?_
  refine lv_iload_n X.1 X.2.1 dX8_step_1 rfl (lv_at hl 1 rfl) ?_
  obtain ⟨a4, e5, hF⟩ := bind_out hF
  obtain ⟨x1, h2, e3, hF⟩ := bnd_out hF
  refine ab_callVa X S e5 (c_X8_runAt l D cA sz e3) rfl (by decide) mi_X8_runAt lm_X8_119 li_yX8_runAt ls_yX8_runAt (As := [.int p0]) (rest := []) rfl ⟨by decide, by decide⟩ ⟨(by decide), (by decide)⟩ hl.1 rfl (by simp [ab_cat, ab_cI, ab_cJ, ab_cD, ab_cF]) dX8_step_2 (fun H1 locs1 S => ?_)
  refine ab_astore_n (i := 2) (lv' := [(2, va_rf x1), (0, va_rf (some this)), (1, .int p0)]) X dX8_step_5 rfl hl (by decide) (by simp [ab_cat, ab_cI, ab_cJ, ab_cD, ab_cF]) (fun ls hl => ?_)
  refine ab_aload_n X dX8_step_6 rfl (lv_at hl 0 rfl) ?_
  refine ab_ifnonnull (tgt := 12) X dX8_step_7 (by decide) (fun c6 => ?_) (fun c6 => ?_)
  · have hF := ab_pos c6 hF
    refine ab_aload_n X dX8_step_12 rfl (lv_at hl 0 rfl) ?_
    refine ab_getI X S hF fi_4_7 lf_X8_123 dX8_step_13 (fun x7 hF => ?_)
    refine lv_if_eq (tgt := 22) X.1 X.2.1 dX8_step_16 (by decide) (fun c8 => ?_) (fun c8 => ?_)
    · have hF := ab_pos c8 hF
      refine ab_aload_n X dX8_step_22 rfl (lv_at hl 1 rfl) ?_
      refine ab_aload_n X dX8_step_23 rfl (lv_at hl 0 rfl) ?_
      refine ab_aload_n X dX8_step_24 rfl (lv_at hl 0 rfl) ?_
      refine ab_getD X S hF fi_4_4 lf_X8_156 dX8_step_25 (fun x9 hF => ?_)
      refine lv_iconst (v := 0) X.1 X.2.1 dX8_step_28 (by decide) ?_
      refine lv_dconst0 X.1 X.2.1 dX8_step_29 ?_
      obtain ⟨a13, e14, hF⟩ := bind_out hF
      obtain ⟨x10, h11, e12, hF⟩ := bnd_out hF
      refine ab_callVi X S e14 (c_X8_advance l D cA sz e12) rfl (by decide) mi_X8_advance lm_X8_175 li_yX8_advance ls_yX8_advance (As := [va_rf x1, .double x9, .int 0, .double FP.dconst0]) (rest := []) rfl ⟨by decide, by decide⟩ ⟨(by decide), (by decide)⟩ hl.1 rfl (by simp [ab_cat, ab_cI, ab_cJ, ab_cD, ab_cF]) dX8_step_30 (fun H1 locs1 S => ?_)
      exact ab_iret X S hr hF dX8_step_33
    · have hF := ab_neg c8 hF
      refine lv_bipush (v := (-2)) X.1 X.2.1 dX8_step_19 (by decide) ?_
      exact ab_iret X S hr hF dX8_step_21
  · have hF := ab_neg c6 hF
    refine lv_iconst (v := (-1)) X.1 X.2.1 dX8_step_10 (by decide) ?_
    exact ab_iret X S hr hF dX8_step_11
def f_X8_to_34   (h : Hp) : Option (Int32 × Hp) :=
  some ((-1), h)
set_option maxHeartbeats 4000000 in
set_option maxRecDepth 100000 in
theorem w_X8_to_34 {p : Program} {l : Launch} {e : Env} {s : State} {m : MethodId} {args : Array Value} {below : List Frame} {meth : Method} {c : Code} {D : va_G} {cA : Nat → ClassId} {sz : Nat} {rr : Int32} {hh : Hp}  (X : ab_X p s m args meth c cX8_to 15 RX8 D cA sz) (hr : meth.sig.returnType = (some .int))  {H : Heap} {locs : List Loc} {ls : Array Slot}  {h : Hp} (S : ab_H D cA sz h s H locs) (hl : lv_has ls 15 []) (hF : f_X8_to_34  h = some (rr, hh)) : W p l e (ab_rm 7 44 30057) s m args below meth c H locs 0 0 (MQ below (ab_Q D cA sz (some (.int rr)) hh) args s 44 30057 (fun q => sz ≤ q)) (F0 m 34 ls []) := by
  unfold f_X8_to_34 at hF
  refine lv_iconst (v := (-1)) X.1 X.2.1 dX8_to_34 (by decide) ?_
  refine W.widen (k := 44) (n := 30057) (Nat.le_of_ble_eq_true rfl) (Nat.le_of_ble_eq_true rfl) ?_
  exact ab_iret X S hr hF dX8_to_35
def f_X8_to_225  (v10 : Int32) (h : Hp) : Option (Int32 × Hp) :=
  some (v10, h)
set_option maxHeartbeats 4000000 in
set_option maxRecDepth 100000 in
theorem w_X8_to_225 {p : Program} {l : Launch} {e : Env} {s : State} {m : MethodId} {args : Array Value} {below : List Frame} {meth : Method} {c : Code} {D : va_G} {cA : Nat → ClassId} {sz : Nat} {rr : Int32} {hh : Hp}  (X : ab_X p s m args meth c cX8_to 15 RX8 D cA sz) (hr : meth.sig.returnType = (some .int))  {H : Heap} {locs : List Loc} {ls : Array Slot} {v10 : Int32} {h : Hp} (S : ab_H D cA sz h s H locs) (hl : lv_has ls 15 [(10, .int v10)]) (hF : f_X8_to_225 v10 h = some (rr, hh)) : W p l e (ab_rm 7 44 30057) s m args below meth c H locs 44 30057 (MQ below (ab_Q D cA sz (some (.int rr)) hh) args s 44 30057 (fun q => sz ≤ q)) (F0 m 225 ls []) := by
  unfold f_X8_to_225 at hF
  refine lv_iload X.1 X.2.1 dX8_to_225 (lv_at hl 0 rfl) ?_
  refine W.widen (k := 44) (n := 30057) (Nat.le_of_ble_eq_true rfl) (Nat.le_of_ble_eq_true rfl) ?_
  exact ab_iret X S hr hF dX8_to_227
def f_X8_to_195 (k_117 : Option Nat → Int32 → Option Nat → UInt64 → Option Nat → Int32 → Hp → Option (Int32 × Hp)) (v0 : Option Nat) (v5 : Int32) (v6 : Option Nat) (v7 : UInt64) (v9 : Option Nat) (v10 : Int32) (v13 : Int32) (u0 : UInt64) (u1 : Option Nat) (u2 : Option Nat) (h : Hp) : Option (Int32 × Hp) :=
  (ab_ck h u2 (8, 0)).bind fun a4 =>
  bnd (f_X8_advance a4 u1 u0 v13 v7 h) fun x1 h2 =>
  if 0 ≤ x1 then
    k_117 v0 v5 v6 v7 v9 (v10 + 1) h2
  else
    (ab_ck h2 v6 (4, 0)).bind fun a10 =>
    bnd (f_X4_copy a10 v9 h2) fun _ h8 =>
    some (x1, h8)
set_option maxHeartbeats 4000000 in
set_option maxRecDepth 100000 in
theorem w_X8_to_195 {p : Program} {l : Launch} {e : Env} {s : State} {m : MethodId} {args : Array Value} {below : List Frame} {meth : Method} {c : Code} {D : va_G} {cA : Nat → ClassId} {sz : Nat} {rr : Int32} {hh : Hp} {k_117 : Option Nat → Int32 → Option Nat → UInt64 → Option Nat → Int32 → Hp → Option (Int32 × Hp)} (X : ab_X p s m args meth c cX8_to 15 RX8 D cA sz) (hr : meth.sig.returnType = (some .int)) (hk_117 : ∀ (v0 : Option Nat) (v5 : Int32) (v6 : Option Nat) (v7 : UInt64) (v9 : Option Nat) (v10 : Int32) (h : Hp) (H : Heap) (locs : List Loc) (ls : Array Slot), ab_H D cA sz h s H locs → lv_has ls 15 [(0, va_rf v0), (5, .int v5), (6, va_rf v6), (7, .double v7), (9, va_rf v9), (10, .int v10)] → k_117 v0 v5 v6 v7 v9 v10 h = some (rr, hh) → W p l e (ab_rm 7 44 30057) s m args below meth c H locs 44 30057 (MQ below (ab_Q D cA sz (some (.int rr)) hh) args s 44 30057 (fun q => sz ≤ q)) (F0 m 117 ls [])) {H : Heap} {locs : List Loc} {ls : Array Slot} {v0 : Option Nat} {v5 : Int32} {v6 : Option Nat} {v7 : UInt64} {v9 : Option Nat} {v10 : Int32} {v13 : Int32} {u0 : UInt64} {u1 : Option Nat} {u2 : Option Nat} {h : Hp} (S : ab_H D cA sz h s H locs) (hl : lv_has ls 15 [(0, va_rf v0), (5, .int v5), (6, va_rf v6), (7, .double v7), (9, va_rf v9), (10, .int v10), (13, .int v13)]) (hF : f_X8_to_195 k_117 v0 v5 v6 v7 v9 v10 v13 u0 u1 u2 h = some (rr, hh)) : W p l e (ab_rm 7 44 30057) s m args below meth c H locs 44 30057 (MQ below (ab_Q D cA sz (some (.int rr)) hh) args s 44 30057 (fun q => sz ≤ q)) (F0 m 195 ls [.double u0, va_rf u1, va_rf u2]) := by
  unfold f_X8_to_195 at hF
  refine lv_iload X.1 X.2.1 dX8_to_195 (lv_at hl 6 rfl) ?_
  refine lv_dload X.1 X.2.1 dX8_to_197 (lv_at hl 3 rfl) ?_
  obtain ⟨a4, e5, hF⟩ := bind_out hF
  obtain ⟨x1, h2, e3, hF⟩ := bnd_out hF
  refine ab_callVi X S e5 (c_X8_advance l D cA sz e3) rfl (by decide) mi_X8_advance lm_X8_175 li_yX8_advance ls_yX8_advance (As := [va_rf u1, .double u0, .int v13, .double v7]) (rest := []) rfl ⟨by decide, by decide⟩ ⟨(by decide), (by decide)⟩ hl.1 rfl (by simp [ab_cat, ab_cI, ab_cJ, ab_cD, ab_cF]) dX8_to_199 (fun H1 locs1 S => ?_)
  refine lv_istore (lv' := [(14, .int x1), (0, va_rf v0), (5, .int v5), (6, va_rf v6), (7, .double v7), (9, va_rf v9), (10, .int v10), (13, .int v13)]) X.1 X.2.1 dX8_to_202 hl (by decide) (by simp [ab_cat, ab_cI, ab_cJ, ab_cD, ab_cF]) (fun ls hl => ?_)
  refine lv_iload X.1 X.2.1 dX8_to_204 (lv_at hl 0 rfl) ?_
  refine lv_if_ge (tgt := 219) X.1 X.2.1 dX8_to_206 (by decide) (fun c6 => ?_) (fun c6 => ?_)
  · have hF := ab_pos c6 hF
    refine lv_iinc (v := v10 + 1) (lv' := [(10, .int (v10 + 1)), (14, .int x1), (0, va_rf v0), (5, .int v5), (6, va_rf v6), (7, .double v7), (9, va_rf v9), (13, .int v13)]) X.1 X.2.1 dX8_to_219 hl (k := 6) rfl (by rfl) (by decide) (by simp [ab_cat, ab_cI, ab_cJ, ab_cD, ab_cF]) (fun ls hl => ?_)
    refine lv_goto (tgt := 117) X.1 X.2.1 dX8_to_222 (by decide) ?_
    refine W.widen (k := 44) (n := 30057) (Nat.le_of_ble_eq_true rfl) (Nat.le_of_ble_eq_true rfl) ?_
    exact hk_117 _ _ _ _ _ _ _ _ _ _ S (lv_sub hl [2, 3, 4, 5, 6, 0] rfl) hF
  · have hF := ab_neg c6 hF
    refine ab_aload X dX8_to_209 (lv_at hl 3 rfl) ?_
    refine ab_aload X dX8_to_211 (lv_at hl 5 rfl) ?_
    obtain ⟨a10, e11, hF⟩ := bind_out hF
    obtain ⟨x7, h8, e9, hF⟩ := bnd_out hF
    refine ab_callVv X S e11 (c_X4_copy l D cA sz e9) rfl (by decide) mi_X4_copy lm_X8_186 li_yX4_copy ls_yX4_copy (As := [va_rf v9]) (rest := []) rfl ⟨by decide, by decide⟩ ⟨(by decide), (by decide)⟩ hl.1 rfl (by simp [ab_cat, ab_cI, ab_cJ, ab_cD, ab_cF]) dX8_to_213 (fun H1 locs1 S => ?_)
    refine lv_iload X.1 X.2.1 dX8_to_216 (lv_at hl 0 rfl) ?_
    refine W.widen (k := 44) (n := 30057) (Nat.le_of_ble_eq_true rfl) (Nat.le_of_ble_eq_true rfl) ?_
    exact ab_iret X S hr hF dX8_to_218
def f_X8_to_175 (k_117 : Option Nat → Int32 → Option Nat → UInt64 → Option Nat → Int32 → Hp → Option (Int32 × Hp)) (v0 : Option Nat) (v5 : Int32) (v6 : Option Nat) (v7 : UInt64) (v9 : Option Nat) (v10 : Int32) (v11 : UInt64) (u0 : Int32) (h : Hp) : Option (Int32 × Hp) :=
  if u0 = 0 then
    (getD h v6 4 4).bind fun x2 =>
    f_X8_to_195 k_117 v0 v5 v6 v7 v9 v10 u0 x2 v6 v0 h
  else
    f_X8_to_195 k_117 v0 v5 v6 v7 v9 v10 u0 v11 v6 v0 h
set_option maxHeartbeats 4000000 in
set_option maxRecDepth 100000 in
theorem w_X8_to_175 {p : Program} {l : Launch} {e : Env} {s : State} {m : MethodId} {args : Array Value} {below : List Frame} {meth : Method} {c : Code} {D : va_G} {cA : Nat → ClassId} {sz : Nat} {rr : Int32} {hh : Hp} {k_117 : Option Nat → Int32 → Option Nat → UInt64 → Option Nat → Int32 → Hp → Option (Int32 × Hp)} (X : ab_X p s m args meth c cX8_to 15 RX8 D cA sz) (hr : meth.sig.returnType = (some .int)) (hk_117 : ∀ (v0 : Option Nat) (v5 : Int32) (v6 : Option Nat) (v7 : UInt64) (v9 : Option Nat) (v10 : Int32) (h : Hp) (H : Heap) (locs : List Loc) (ls : Array Slot), ab_H D cA sz h s H locs → lv_has ls 15 [(0, va_rf v0), (5, .int v5), (6, va_rf v6), (7, .double v7), (9, va_rf v9), (10, .int v10)] → k_117 v0 v5 v6 v7 v9 v10 h = some (rr, hh) → W p l e (ab_rm 7 44 30057) s m args below meth c H locs 44 30057 (MQ below (ab_Q D cA sz (some (.int rr)) hh) args s 44 30057 (fun q => sz ≤ q)) (F0 m 117 ls [])) {H : Heap} {locs : List Loc} {ls : Array Slot} {v0 : Option Nat} {v5 : Int32} {v6 : Option Nat} {v7 : UInt64} {v9 : Option Nat} {v10 : Int32} {v11 : UInt64} {u0 : Int32} {h : Hp} (S : ab_H D cA sz h s H locs) (hl : lv_has ls 15 [(0, va_rf v0), (5, .int v5), (6, va_rf v6), (7, .double v7), (9, va_rf v9), (10, .int v10), (11, .double v11)]) (hF : f_X8_to_175 k_117 v0 v5 v6 v7 v9 v10 v11 u0 h = some (rr, hh)) : W p l e (ab_rm 7 44 30057) s m args below meth c H locs 44 30057 (MQ below (ab_Q D cA sz (some (.int rr)) hh) args s 44 30057 (fun q => sz ≤ q)) (F0 m 175 ls [.int u0]) := by
  unfold f_X8_to_175 at hF
  refine lv_istore (lv' := [(13, .int u0), (0, va_rf v0), (5, .int v5), (6, va_rf v6), (7, .double v7), (9, va_rf v9), (10, .int v10), (11, .double v11)]) X.1 X.2.1 dX8_to_175 hl (by decide) (by simp [ab_cat, ab_cI, ab_cJ, ab_cD, ab_cF]) (fun ls hl => ?_)
  refine ab_aload_n X dX8_to_177 rfl (lv_at hl 1 rfl) ?_
  refine ab_aload X dX8_to_178 (lv_at hl 3 rfl) ?_
  refine lv_iload X.1 X.2.1 dX8_to_180 (lv_at hl 0 rfl) ?_
  refine lv_if_eq (tgt := 190) X.1 X.2.1 dX8_to_182 (by decide) (fun c1 => ?_) (fun c1 => ?_)
  · have hF := ab_pos c1 hF
    refine ab_aload X dX8_to_190 (lv_at hl 3 rfl) ?_
    refine ab_getD X S hF fi_4_4 lf_X8_156 dX8_to_192 (fun x2 hF => ?_)
    refine W.widen (k := 44) (n := 30057) (Nat.le_of_ble_eq_true rfl) (Nat.le_of_ble_eq_true rfl) ?_
    exact w_X8_to_195 X hr hk_117 S (lv_sub hl [1, 2, 3, 4, 5, 6, 0] rfl) hF
  · have hF := ab_neg c1 hF
    refine lv_dload X.1 X.2.1 dX8_to_185 (lv_at hl 7 rfl) ?_
    refine lv_goto (tgt := 195) X.1 X.2.1 dX8_to_187 (by decide) ?_
    refine W.widen (k := 44) (n := 30057) (Nat.le_of_ble_eq_true rfl) (Nat.le_of_ble_eq_true rfl) ?_
    exact w_X8_to_195 X hr hk_117 S (lv_sub hl [1, 2, 3, 4, 5, 6, 0] rfl) hF
def f_X8_to_117  : Nat → Option Nat → Int32 → Option Nat → UInt64 → Option Nat → Int32 → Hp → Option (Int32 × Hp)
  | 0, _, _, _, _, _, _, _ => none
  | n + 1, v0, v5, v6, v7, v9, v10, h => if v5 ≤ v10 then
      f_X8_to_225 v10 h
    else
      (getI h v6 4 7).bind fun x2 =>
      if ¬ x2 = 0 then
        f_X8_to_225 v10 h
      else
        (getD h v6 4 1).bind fun x4 =>
        if (Op.cmpValue (FP.dcmp x4 v7) CmpOp.l) = 0 then
          f_X8_to_225 v10 h
        else
          (getD h v6 4 1).bind fun x6 =>
          (fop (FP.dsub v7 x6)).bind fun x7 =>
          bnd (f_X8_size x7 h) fun x8 h9 =>
          (getD h9 v6 4 4).bind fun x11 =>
          bnd (f_X8_size x11 h9) fun x12 h13 =>
          if 0 < (Op.cmpValue (FP.dcmp x8 x12) CmpOp.g) then
            f_X8_to_175 (f_X8_to_117 n) v0 v5 v6 v7 v9 v10 x7 0 h13
          else
            f_X8_to_175 (f_X8_to_117 n) v0 v5 v6 v7 v9 v10 x7 1 h13
set_option maxHeartbeats 4000000 in
set_option maxRecDepth 100000 in
theorem w_X8_to_117 {p : Program} {l : Launch} {e : Env} {s : State} {m : MethodId} {args : Array Value} {below : List Frame} {meth : Method} {c : Code} {D : va_G} {cA : Nat → ClassId} {sz : Nat} {rr : Int32} {hh : Hp}  (X : ab_X p s m args meth c cX8_to 15 RX8 D cA sz) (hr : meth.sig.returnType = (some .int))  (n : Nat) : ∀ (v0 : Option Nat) (v5 : Int32) (v6 : Option Nat) (v7 : UInt64) (v9 : Option Nat) (v10 : Int32) (h : Hp) (H : Heap) (locs : List Loc) (ls : Array Slot), ab_H D cA sz h s H locs → lv_has ls 15 [(0, va_rf v0), (5, .int v5), (6, va_rf v6), (7, .double v7), (9, va_rf v9), (10, .int v10)] → f_X8_to_117 n v0 v5 v6 v7 v9 v10 h = some (rr, hh) → W p l e (ab_rm 7 44 30057) s m args below meth c H locs 44 30057 (MQ below (ab_Q D cA sz (some (.int rr)) hh) args s 44 30057 (fun q => sz ≤ q)) (F0 m 117 ls []) := by
  induction n with
  | zero => intro v0 v5 v6 v7 v9 v10 h H locs ls S hl hF; cases hF
  | succ n ih =>
    intro v0 v5 v6 v7 v9 v10 h H locs ls S hl hF
    rw [f_X8_to_117] at hF
    refine lv_iload X.1 X.2.1 dX8_to_117 (lv_at hl 5 rfl) ?_
    refine lv_iload X.1 X.2.1 dX8_to_119 (lv_at hl 1 rfl) ?_
    refine lv_icmp_ge (tgt := 225) X.1 X.2.1 dX8_to_121 (by decide) (fun c1 => ?_) (fun c1 => ?_)
    · have hF := ab_pos c1 hF
      refine W.widen (k := 44) (n := 30057) (Nat.le_of_ble_eq_true rfl) (Nat.le_of_ble_eq_true rfl) ?_
      exact w_X8_to_225 X hr  S (lv_sub hl [5] rfl) hF
    · have hF := ab_neg c1 hF
      refine ab_aload X dX8_to_124 (lv_at hl 2 rfl) ?_
      refine ab_getI X S hF fi_4_7 lf_X8_123 dX8_to_126 (fun x2 hF => ?_)
      refine lv_if_ne (tgt := 225) X.1 X.2.1 dX8_to_129 (by decide) (fun c3 => ?_) (fun c3 => ?_)
      · have hF := ab_pos c3 hF
        refine W.widen (k := 44) (n := 30057) (Nat.le_of_ble_eq_true rfl) (Nat.le_of_ble_eq_true rfl) ?_
        exact w_X8_to_225 X hr  S (lv_sub hl [5] rfl) hF
      · have hF := ab_neg (fun q => q c3) hF
        refine ab_aload X dX8_to_132 (lv_at hl 2 rfl) ?_
        refine ab_getD X S hF fi_4_1 lf_X8_179 dX8_to_134 (fun x4 hF => ?_)
        refine lv_dload X.1 X.2.1 dX8_to_137 (lv_at hl 3 rfl) ?_
        refine lv_dcmp X.1 X.2.1 dX8_to_139 ?_
        refine lv_if_eq (tgt := 225) X.1 X.2.1 dX8_to_140 (by decide) (fun c5 => ?_) (fun c5 => ?_)
        · have hF := ab_pos c5 hF
          refine W.widen (k := 44) (n := 30057) (Nat.le_of_ble_eq_true rfl) (Nat.le_of_ble_eq_true rfl) ?_
          exact w_X8_to_225 X hr  S (lv_sub hl [5] rfl) hF
        · have hF := ab_neg c5 hF
          refine lv_dload X.1 X.2.1 dX8_to_143 (lv_at hl 3 rfl) ?_
          refine ab_aload X dX8_to_145 (lv_at hl 2 rfl) ?_
          refine ab_getD X S hF fi_4_1 lf_X8_179 dX8_to_147 (fun x6 hF => ?_)
          obtain ⟨x7, ev, ne, hF⟩ := ab_fopx hF
          refine lv_dsub X.1 X.2.1 dX8_to_150 ne ?_
          rw [ev]
          refine lv_dstore (lv' := [(11, .double x7), (0, va_rf v0), (5, .int v5), (6, va_rf v6), (7, .double v7), (9, va_rf v9), (10, .int v10)]) X.1 X.2.1 dX8_to_151 hl (by decide) (by simp [ab_cat, ab_cI, ab_cJ, ab_cD, ab_cF]) (fun ls hl => ?_)
          refine lv_dload X.1 X.2.1 dX8_to_153 (lv_at hl 0 rfl) ?_
          obtain ⟨x8, h9, e10, hF⟩ := bnd_out hF
          refine ab_callSd X S (c_X8_size l D cA sz e10) mi_X8_size lm_X8_146 lt_yX8_size (As := [.double x7]) (rest := []) rfl ⟨by decide, by decide⟩ ⟨(by decide), (by decide)⟩ hl.1 rfl (by simp [ab_cat, ab_cI, ab_cJ, ab_cD, ab_cF]) dX8_to_155 (fun H1 locs1 S => ?_)
          refine ab_aload X dX8_to_158 (lv_at hl 3 rfl) ?_
          refine ab_getD X S hF fi_4_4 lf_X8_156 dX8_to_160 (fun x11 hF => ?_)
          obtain ⟨x12, h13, e14, hF⟩ := bnd_out hF
          refine ab_callSd X S (c_X8_size l D cA sz e14) mi_X8_size lm_X8_146 lt_yX8_size (As := [.double x11]) (rest := [.double x8]) rfl ⟨by decide, by decide⟩ ⟨(by decide), (by decide)⟩ hl.1 rfl (by simp [ab_cat, ab_cI, ab_cJ, ab_cD, ab_cF]) dX8_to_163 (fun H1 locs1 S => ?_)
          refine lv_dcmp X.1 X.2.1 dX8_to_166 ?_
          refine lv_if_gt (tgt := 174) X.1 X.2.1 dX8_to_167 (by decide) (fun c15 => ?_) (fun c15 => ?_)
          · have hF := ab_pos c15 hF
            refine lv_iconst (v := 0) X.1 X.2.1 dX8_to_174 (by decide) ?_
            refine W.widen (k := 44) (n := 30057) (Nat.le_of_ble_eq_true rfl) (Nat.le_of_ble_eq_true rfl) ?_
            exact w_X8_to_175 X hr ih S (lv_sub hl [1, 2, 3, 4, 5, 6, 0] rfl) hF
          · have hF := ab_neg c15 hF
            refine lv_iconst (v := 1) X.1 X.2.1 dX8_to_170 (by decide) ?_
            refine lv_goto (tgt := 175) X.1 X.2.1 dX8_to_171 (by decide) ?_
            refine W.widen (k := 44) (n := 30057) (Nat.le_of_ble_eq_true rfl) (Nat.le_of_ble_eq_true rfl) ?_
            exact w_X8_to_175 X hr ih S (lv_sub hl [1, 2, 3, 4, 5, 6, 0] rfl) hF
def f_X8_to_99  (v0 : Option Nat) (v5 : Int32) (v6 : Option Nat) (v7 : UInt64) (u0 : Int32) (u1 : Int32) (h : Hp) : Option (Int32 × Hp) :=
  if u1 = u0 then
    (ab_ck h v0 (8, 0)).bind fun a5 =>
    bnd (f_X8_store a5 v6 4 h) fun x2 h3 =>
    f_X8_to_117 fuelN v0 v5 v6 v7 x2 0 h3
  else
    some ((-2), h)
set_option maxHeartbeats 4000000 in
set_option maxRecDepth 100000 in
theorem w_X8_to_99 {p : Program} {l : Launch} {e : Env} {s : State} {m : MethodId} {args : Array Value} {below : List Frame} {meth : Method} {c : Code} {D : va_G} {cA : Nat → ClassId} {sz : Nat} {rr : Int32} {hh : Hp}  (X : ab_X p s m args meth c cX8_to 15 RX8 D cA sz) (hr : meth.sig.returnType = (some .int))  {H : Heap} {locs : List Loc} {ls : Array Slot} {v0 : Option Nat} {v5 : Int32} {v6 : Option Nat} {v7 : UInt64} {u0 : Int32} {u1 : Int32} {h : Hp} (S : ab_H D cA sz h s H locs) (hl : lv_has ls 15 [(0, va_rf v0), (5, .int v5), (6, va_rf v6), (7, .double v7)]) (hF : f_X8_to_99 v0 v5 v6 v7 u0 u1 h = some (rr, hh)) : W p l e (ab_rm 7 44 30057) s m args below meth c H locs 0 0 (MQ below (ab_Q D cA sz (some (.int rr)) hh) args s 44 30057 (fun q => sz ≤ q)) (F0 m 99 ls [.int u0, .int u1]) := by
  unfold f_X8_to_99 at hF
  refine lv_icmp_eq (tgt := 105) X.1 X.2.1 dX8_to_99 (by decide) (fun c1 => ?_) (fun c1 => ?_)
  · have hF := ab_pos c1 hF
    refine ab_aload_n X dX8_to_105 rfl (lv_at hl 0 rfl) ?_
    refine ab_aload X dX8_to_106 (lv_at hl 2 rfl) ?_
    refine lv_iconst (v := 4) X.1 X.2.1 dX8_to_108 (by decide) ?_
    obtain ⟨a5, e6, hF⟩ := bind_out hF
    obtain ⟨x2, h3, e4, hF⟩ := bnd_out hF
    refine ab_callVxa X S e6 (c_X8_store l D cA sz e4) rfl (by decide) mi_X8_store lm_X8_182 li_yX8_store ls_yX8_store (As := [va_rf v6, .int 4]) (rest := []) rfl ⟨by decide, by decide⟩ ⟨(by decide), (by decide)⟩ hl.1 rfl (by simp [ab_cat, ab_cI, ab_cJ, ab_cD, ab_cF]) dX8_to_109 (fun H1 locs1 S => ?_)
    refine ab_astore (lv' := [(9, va_rf x2), (0, va_rf v0), (5, .int v5), (6, va_rf v6), (7, .double v7)]) X dX8_to_112 hl (by decide) (by simp [ab_cat, ab_cI, ab_cJ, ab_cD, ab_cF]) (fun ls hl => ?_)
    refine lv_iconst (v := 0) X.1 X.2.1 dX8_to_114 (by decide) ?_
    refine lv_istore (lv' := [(10, .int 0), (9, va_rf x2), (0, va_rf v0), (5, .int v5), (6, va_rf v6), (7, .double v7)]) X.1 X.2.1 dX8_to_115 hl (by decide) (by simp [ab_cat, ab_cI, ab_cJ, ab_cD, ab_cF]) (fun ls hl => ?_)
    refine W.widen (k := 44) (n := 30057) (Nat.le_of_ble_eq_true rfl) (Nat.le_of_ble_eq_true rfl) ?_
    exact w_X8_to_117 X hr  fuelN _ _ _ _ _ _ _ _ _ _ S (lv_sub hl [2, 3, 4, 5, 1, 0] rfl) hF
  · have hF := ab_neg c1 hF
    refine lv_bipush (v := (-2)) X.1 X.2.1 dX8_to_102 (by decide) ?_
    refine W.widen (k := 44) (n := 30057) (Nat.le_of_ble_eq_true rfl) (Nat.le_of_ble_eq_true rfl) ?_
    exact ab_iret X S hr hF dX8_to_104
def f_X8_to_84  (v0 : Option Nat) (v5 : Int32) (v6 : Option Nat) (v7 : UInt64) (u0 : Int32) (h : Hp) : Option (Int32 × Hp) :=
  (getD h v6 4 4).bind fun x1 =>
  if 0 ≤ (Op.cmpValue (FP.dcmp x1 FP.dconst0) CmpOp.g) then
    f_X8_to_99 v0 v5 v6 v7 0 u0 h
  else
    f_X8_to_99 v0 v5 v6 v7 1 u0 h
set_option maxHeartbeats 4000000 in
set_option maxRecDepth 100000 in
theorem w_X8_to_84 {p : Program} {l : Launch} {e : Env} {s : State} {m : MethodId} {args : Array Value} {below : List Frame} {meth : Method} {c : Code} {D : va_G} {cA : Nat → ClassId} {sz : Nat} {rr : Int32} {hh : Hp}  (X : ab_X p s m args meth c cX8_to 15 RX8 D cA sz) (hr : meth.sig.returnType = (some .int))  {H : Heap} {locs : List Loc} {ls : Array Slot} {v0 : Option Nat} {v5 : Int32} {v6 : Option Nat} {v7 : UInt64} {u0 : Int32} {h : Hp} (S : ab_H D cA sz h s H locs) (hl : lv_has ls 15 [(0, va_rf v0), (5, .int v5), (6, va_rf v6), (7, .double v7)]) (hF : f_X8_to_84 v0 v5 v6 v7 u0 h = some (rr, hh)) : W p l e (ab_rm 7 44 30057) s m args below meth c H locs 0 0 (MQ below (ab_Q D cA sz (some (.int rr)) hh) args s 44 30057 (fun q => sz ≤ q)) (F0 m 84 ls [.int u0]) := by
  unfold f_X8_to_84 at hF
  refine ab_aload X dX8_to_84 (lv_at hl 2 rfl) ?_
  refine ab_getD X S hF fi_4_4 lf_X8_156 dX8_to_86 (fun x1 hF => ?_)
  refine lv_dconst0 X.1 X.2.1 dX8_to_89 ?_
  refine lv_dcmp X.1 X.2.1 dX8_to_90 ?_
  refine lv_if_ge (tgt := 98) X.1 X.2.1 dX8_to_91 (by decide) (fun c2 => ?_) (fun c2 => ?_)
  · have hF := ab_pos c2 hF
    refine lv_iconst (v := 0) X.1 X.2.1 dX8_to_98 (by decide) ?_
    refine W.widen (k := 0) (n := 0) (Nat.le_of_ble_eq_true rfl) (Nat.le_of_ble_eq_true rfl) ?_
    exact w_X8_to_99 X hr  S (lv_sub hl [0, 1, 2, 3] rfl) hF
  · have hF := ab_neg c2 hF
    refine lv_iconst (v := 1) X.1 X.2.1 dX8_to_94 (by decide) ?_
    refine lv_goto (tgt := 99) X.1 X.2.1 dX8_to_95 (by decide) ?_
    refine W.widen (k := 0) (n := 0) (Nat.le_of_ble_eq_true rfl) (Nat.le_of_ble_eq_true rfl) ?_
    exact w_X8_to_99 X hr  S (lv_sub hl [0, 1, 2, 3] rfl) hF
def f_X8_to (this : Nat) (p0 : Int32) (p1 : Int64) (p2 : Int32) (p3 : Int32) (h : Hp) : Option (Int32 × Hp) :=
  (ab_ck h (some this) (8, 0)).bind fun a4 =>
  bnd (f_X8_runAt a4 p0 h) fun x1 h2 =>
  if x1 = none then
    f_X8_to_34 h2
  else
    bnd (f_X8_isK p2 h2) fun x7 h8 =>
    if x7 = 0 then
      f_X8_to_34 h8
    else
      if p3 < 1 then
        f_X8_to_34 h8
      else
        if p3 ≤ 200 then
          (getI h8 x1 4 7).bind fun x13 =>
          if x13 = 0 then
            bnd (f_X8_quotient p1 p2 h8) fun x15 h16 =>
            (getD h16 x1 4 1).bind fun x18 =>
            if ¬ (Op.cmpValue (FP.dcmp x15 x18) CmpOp.l) = 0 then
              (getD h16 x1 4 1).bind fun x20 =>
              if 0 ≤ (Op.cmpValue (FP.dcmp x15 x20) CmpOp.g) then
                f_X8_to_84 (some this) p3 x1 x15 0 h16
              else
                f_X8_to_84 (some this) p3 x1 x15 1 h16
            else
              some (0, h16)
          else
            some ((-2), h8)
        else
          f_X8_to_34 h8
theorem mi_X8_to : ab_MI yX8_to cX8_to 15 (some .int) 4 := ⟨lc_yX8_to, lz_RX8, by decide, by decide, by decide +kernel⟩
set_option maxHeartbeats 4000000 in
set_option maxRecDepth 100000 in
theorem c_X8_to (l : Launch) (D : va_G) (cA : Nat → ClassId) (sz : Nat) {this : Nat} {p0 : Int32} {p1 : Int64} {p2 : Int32} {p3 : Int32} {h hh : Hp} {rr : Int32} (hF : f_X8_to this p0 p1 p2 p3 h = some (rr, hh)) : ab_C l D cA sz yX8_to cX8_to 15 (some .int) 7 44 30057 [.ref this, .int p0, .long p1, .int p2, .int p3] h (some (.int rr)) hh := by
  refine Met.ofW (cc := cX8_to) (maxL := 15) (ret := (some .int)) (by decide) rfl ?_
  intro p e s m args below meth c s₁ B hml hv
  obtain ⟨rfl, hT, hR⟩ := hv
  have X : ab_X p s m _ meth c cX8_to 15 RX8 D cA sz := (ab_enter B hml hT hR).1
  have S := (ab_enter B hml hT hR).2
  have hr := B.returns
  obtain ⟨ls, hls, hl⟩ := ab_entry m [.ref this, .int p0, .long p1, .int p2, .int p3] 15 (lv := [(0, .ref this), (1, .int p0), (2, .long p1), (4, .int p2), (5, .int p3)]) (by simp [lg_sl, ab_cat, ab_cI, ab_cJ, ab_cD, ab_cF, ab_cA]) (by simp [lv_args, ab_cat, ab_cI, ab_cJ, ab_cD, ab_cF, ab_cA])
  rw [hls]
  have hl : lv_has ls 15 [(0, va_rf (some this)), (1, .int p0), (2, .long p1), (4, .int p2), (5, .int p3)] := hl
  unfold f_X8_to at hF
  show W p l e (ab_rm 7 44 30057) s m _ below meth c s.heap [] 0 0 _ _
  refine ab_aload_n X dX8_to_0 rfl (lv_at hl 0 rfl) ?_
  refine lv_iload_n X.1 X.2.1 dX8_to_1 rfl (lv_at hl 1 rfl) ?_
  obtain ⟨a4, e5, hF⟩ := bind_out hF
  obtain ⟨x1, h2, e3, hF⟩ := bnd_out hF
  refine ab_callVa X S e5 (c_X8_runAt l D cA sz e3) rfl (by decide) mi_X8_runAt lm_X8_119 li_yX8_runAt ls_yX8_runAt (As := [.int p0]) (rest := []) rfl ⟨by decide, by decide⟩ ⟨(by decide), (by decide)⟩ hl.1 rfl (by simp [ab_cat, ab_cI, ab_cJ, ab_cD, ab_cF]) dX8_to_2 (fun H1 locs1 S => ?_)
  refine ab_astore (lv' := [(6, va_rf x1), (0, va_rf (some this)), (1, .int p0), (2, .long p1), (4, .int p2), (5, .int p3)]) X dX8_to_5 hl (by decide) (by simp [ab_cat, ab_cI, ab_cJ, ab_cD, ab_cF]) (fun ls hl => ?_)
  refine ab_aload X dX8_to_7 (lv_at hl 0 rfl) ?_
  refine ab_ifnull (tgt := 34) X dX8_to_9 (by decide) (fun c6 => ?_) (fun c6 => ?_)
  · have hF := ab_pos c6 hF
    refine W.widen (k := 0) (n := 0) (Nat.le_of_ble_eq_true rfl) (Nat.le_of_ble_eq_true rfl) ?_
    exact w_X8_to_34 X hr  S (lv_sub hl [] rfl) hF
  · have hF := ab_neg c6 hF
    refine lv_iload X.1 X.2.1 dX8_to_12 (lv_at hl 4 rfl) ?_
    obtain ⟨x7, h8, e9, hF⟩ := bnd_out hF
    refine ab_callSi X S (c_X8_isK l D cA sz e9) mi_X8_isK lm_X8_67 lt_yX8_isK (As := [.int p2]) (rest := []) rfl ⟨by decide, by decide⟩ ⟨(by decide), (by decide)⟩ hl.1 rfl (by simp [ab_cat, ab_cI, ab_cJ, ab_cD, ab_cF]) dX8_to_14 (fun H1 locs1 S => ?_)
    refine lv_if_eq (tgt := 34) X.1 X.2.1 dX8_to_17 (by decide) (fun c10 => ?_) (fun c10 => ?_)
    · have hF := ab_pos c10 hF
      refine W.widen (k := 0) (n := 0) (Nat.le_of_ble_eq_true rfl) (Nat.le_of_ble_eq_true rfl) ?_
      exact w_X8_to_34 X hr  S (lv_sub hl [] rfl) hF
    · have hF := ab_neg c10 hF
      refine lv_iload X.1 X.2.1 dX8_to_20 (lv_at hl 5 rfl) ?_
      refine lv_iconst (v := 1) X.1 X.2.1 dX8_to_22 (by decide) ?_
      refine lv_icmp_lt (tgt := 34) X.1 X.2.1 dX8_to_23 (by decide) (fun c11 => ?_) (fun c11 => ?_)
      · have hF := ab_pos c11 hF
        refine W.widen (k := 0) (n := 0) (Nat.le_of_ble_eq_true rfl) (Nat.le_of_ble_eq_true rfl) ?_
        exact w_X8_to_34 X hr  S (lv_sub hl [] rfl) hF
      · have hF := ab_neg c11 hF
        refine lv_iload X.1 X.2.1 dX8_to_26 (lv_at hl 5 rfl) ?_
        refine lv_sipush (v := 200) X.1 X.2.1 dX8_to_28 (by decide) ?_
        refine lv_icmp_le (tgt := 36) X.1 X.2.1 dX8_to_31 (by decide) (fun c12 => ?_) (fun c12 => ?_)
        · have hF := ab_pos c12 hF
          refine ab_aload X dX8_to_36 (lv_at hl 0 rfl) ?_
          refine ab_getI X S hF fi_4_7 lf_X8_123 dX8_to_38 (fun x13 hF => ?_)
          refine lv_if_eq (tgt := 47) X.1 X.2.1 dX8_to_41 (by decide) (fun c14 => ?_) (fun c14 => ?_)
          · have hF := ab_pos c14 hF
            refine lv_lload_n X.1 X.2.1 dX8_to_47 rfl (lv_at hl 3 rfl) ?_
            refine lv_iload X.1 X.2.1 dX8_to_48 (lv_at hl 4 rfl) ?_
            obtain ⟨x15, h16, e17, hF⟩ := bnd_out hF
            refine ab_callSd X S (c_X8_quotient l D cA sz e17) mi_X8_quotient lm_X8_71 lt_yX8_quotient (As := [.long p1, .int p2]) (rest := []) rfl ⟨by decide, by decide⟩ ⟨(by decide), (by decide)⟩ hl.1 rfl (by simp [ab_cat, ab_cI, ab_cJ, ab_cD, ab_cF]) dX8_to_50 (fun H1 locs1 S => ?_)
            refine lv_dstore (lv' := [(7, .double x15), (6, va_rf x1), (0, va_rf (some this)), (1, .int p0), (2, .long p1), (4, .int p2), (5, .int p3)]) X.1 X.2.1 dX8_to_53 hl (by decide) (by simp [ab_cat, ab_cI, ab_cJ, ab_cD, ab_cF]) (fun ls hl => ?_)
            refine lv_dload X.1 X.2.1 dX8_to_55 (lv_at hl 0 rfl) ?_
            refine ab_aload X dX8_to_57 (lv_at hl 1 rfl) ?_
            refine ab_getD X S hF fi_4_1 lf_X8_179 dX8_to_59 (fun x18 hF => ?_)
            refine lv_dcmp X.1 X.2.1 dX8_to_62 ?_
            refine lv_if_ne (tgt := 68) X.1 X.2.1 dX8_to_63 (by decide) (fun c19 => ?_) (fun c19 => ?_)
            · have hF := ab_pos c19 hF
              refine lv_dload X.1 X.2.1 dX8_to_68 (lv_at hl 0 rfl) ?_
              refine ab_aload X dX8_to_70 (lv_at hl 1 rfl) ?_
              refine ab_getD X S hF fi_4_1 lf_X8_179 dX8_to_72 (fun x20 hF => ?_)
              refine lv_dcmp X.1 X.2.1 dX8_to_75 ?_
              refine lv_if_ge (tgt := 83) X.1 X.2.1 dX8_to_76 (by decide) (fun c21 => ?_) (fun c21 => ?_)
              · have hF := ab_pos c21 hF
                refine lv_iconst (v := 0) X.1 X.2.1 dX8_to_83 (by decide) ?_
                refine W.widen (k := 0) (n := 0) (Nat.le_of_ble_eq_true rfl) (Nat.le_of_ble_eq_true rfl) ?_
                exact w_X8_to_84 X hr  S (lv_sub hl [2, 6, 1, 0] rfl) hF
              · have hF := ab_neg c21 hF
                refine lv_iconst (v := 1) X.1 X.2.1 dX8_to_79 (by decide) ?_
                refine lv_goto (tgt := 84) X.1 X.2.1 dX8_to_80 (by decide) ?_
                refine W.widen (k := 0) (n := 0) (Nat.le_of_ble_eq_true rfl) (Nat.le_of_ble_eq_true rfl) ?_
                exact w_X8_to_84 X hr  S (lv_sub hl [2, 6, 1, 0] rfl) hF
            · have hF := ab_neg (fun q => q c19) hF
              refine lv_iconst (v := 0) X.1 X.2.1 dX8_to_66 (by decide) ?_
              refine W.widen (k := 44) (n := 30057) (Nat.le_of_ble_eq_true rfl) (Nat.le_of_ble_eq_true rfl) ?_
              exact ab_iret X S hr hF dX8_to_67
          · have hF := ab_neg c14 hF
            refine lv_bipush (v := (-2)) X.1 X.2.1 dX8_to_44 (by decide) ?_
            refine W.widen (k := 44) (n := 30057) (Nat.le_of_ble_eq_true rfl) (Nat.le_of_ble_eq_true rfl) ?_
            exact ab_iret X S hr hF dX8_to_46
        · have hF := ab_neg c12 hF
          refine W.widen (k := 0) (n := 0) (Nat.le_of_ble_eq_true rfl) (Nat.le_of_ble_eq_true rfl) ?_
          exact w_X8_to_34 X hr  S (lv_sub hl [] rfl) hF
