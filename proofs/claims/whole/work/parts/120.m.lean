def f_X8_finish_69   (h : Hp) : Option (Unit × Hp) :=
  some ((), h)
set_option maxHeartbeats 4000000 in
set_option maxRecDepth 100000 in
theorem w_X8_finish_69 {p : Program} {l : Launch} {e : Env} {s : State} {m : MethodId} {args : Array Value} {below : List Frame} {meth : Method} {c : Code} {D : va_G} {cA : Nat → ClassId} {sz : Nat}  {hh : Hp}  (X : ab_X p s m args meth c cX8_finish 6 RX8 D cA sz) (hr : meth.sig.returnType = none)  {H : Heap} {locs : List Loc} {ls : Array Slot}  {h : Hp} (S : ab_H D cA sz h s H locs) (hl : lv_has ls 6 []) (hF : f_X8_finish_69  h = some ((), hh)) : W p l e (ab_rm 5 0 0) s m args below meth c H locs 0 0 (MQ below (ab_Q D cA sz none hh) args s 0 0 (fun q => sz ≤ q)) (F0 m 69 ls []) := by
  unfold f_X8_finish_69 at hF
  exact ab_vret X S hr hF dX8_finish_69
def f_X8_finish_66  (u0 : UInt64) (u1 : Option Nat) (h : Hp) : Option (Unit × Hp) :=
  (putD h u1 4 4 u0).bind fun h1 =>
  f_X8_finish_69 h1
set_option maxHeartbeats 4000000 in
set_option maxRecDepth 100000 in
theorem w_X8_finish_66 {p : Program} {l : Launch} {e : Env} {s : State} {m : MethodId} {args : Array Value} {below : List Frame} {meth : Method} {c : Code} {D : va_G} {cA : Nat → ClassId} {sz : Nat}  {hh : Hp}  (X : ab_X p s m args meth c cX8_finish 6 RX8 D cA sz) (hr : meth.sig.returnType = none)  {H : Heap} {locs : List Loc} {ls : Array Slot} {u0 : UInt64} {u1 : Option Nat} {h : Hp} (S : ab_H D cA sz h s H locs) (hl : lv_has ls 6 []) (hF : f_X8_finish_66 u0 u1 h = some ((), hh)) : W p l e (ab_rm 5 0 0) s m args below meth c H locs 0 0 (MQ below (ab_Q D cA sz none hh) args s 0 0 (fun q => sz ≤ q)) (F0 m 66 ls [.double u0, va_rf u1]) := by
  unfold f_X8_finish_66 at hF
  refine ab_putD X S hF fi_4_4 ci_4 (Or.inl rfl) rfl lf_X8_156 dX8_finish_66 (fun h1 H1 locs1 hF S => ?_)
  exact w_X8_finish_69 X hr  S (lv_sub hl [] rfl) hF
def f_X8_finish_26  (v0 : Option Nat) (v1 : Option Nat) (v2 : Int32) (h : Hp) : Option (Unit × Hp) :=
  (getI h v1 4 3).bind fun x1 =>
  if ¬ x1 = 4 then
    f_X8_finish_69 h
  else
    if ¬ v2 = 0 then
      (getR h v0 8 9).bind fun x4 =>
      (getD h x4 6 4).bind fun x5 =>
      f_X8_finish_66 x5 v1 h
    else
      (getR h v0 8 9).bind fun x6 =>
      (getD h x6 6 4).bind fun x7 =>
      (getR h v0 8 9).bind fun x8 =>
      (getD h x8 6 12).bind fun x9 =>
      bnd (f_X8_grown x7 x9 h) fun x10 h11 =>
      f_X8_finish_66 x10 v1 h11
set_option maxHeartbeats 4000000 in
set_option maxRecDepth 100000 in
theorem w_X8_finish_26 {p : Program} {l : Launch} {e : Env} {s : State} {m : MethodId} {args : Array Value} {below : List Frame} {meth : Method} {c : Code} {D : va_G} {cA : Nat → ClassId} {sz : Nat}  {hh : Hp}  (X : ab_X p s m args meth c cX8_finish 6 RX8 D cA sz) (hr : meth.sig.returnType = none)  {H : Heap} {locs : List Loc} {ls : Array Slot} {v0 : Option Nat} {v1 : Option Nat} {v2 : Int32} {h : Hp} (S : ab_H D cA sz h s H locs) (hl : lv_has ls 6 [(0, va_rf v0), (1, va_rf v1), (2, .int v2)]) (hF : f_X8_finish_26 v0 v1 v2 h = some ((), hh)) : W p l e (ab_rm 5 0 0) s m args below meth c H locs 0 0 (MQ below (ab_Q D cA sz none hh) args s 0 0 (fun q => sz ≤ q)) (F0 m 26 ls []) := by
  unfold f_X8_finish_26 at hF
  refine ab_aload_n X dX8_finish_26 rfl (lv_at hl 1 rfl) ?_
  refine ab_getI X S hF fi_4_3 lf_X8_143 dX8_finish_27 (fun x1 hF => ?_)
  refine lv_iconst (v := 4) X.1 X.2.1 dX8_finish_30 (by decide) ?_
  refine lv_icmp_ne (tgt := 69) X.1 X.2.1 dX8_finish_31 (by decide) (fun c2 => ?_) (fun c2 => ?_)
  · have hF := ab_pos c2 hF
    exact w_X8_finish_69 X hr  S (lv_sub hl [] rfl) hF
  · have hF := ab_neg (fun q => q c2) hF
    refine ab_aload_n X dX8_finish_34 rfl (lv_at hl 1 rfl) ?_
    refine lv_iload_n X.1 X.2.1 dX8_finish_35 rfl (lv_at hl 2 rfl) ?_
    refine lv_if_ne (tgt := 59) X.1 X.2.1 dX8_finish_36 (by decide) (fun c3 => ?_) (fun c3 => ?_)
    · have hF := ab_pos c3 hF
      refine ab_aload_n X dX8_finish_59 rfl (lv_at hl 0 rfl) ?_
      refine ab_getR X S hF fi_8_9 lf_X8_49 dX8_finish_60 (fun x4 hF => ?_)
      refine ab_getD X S hF fi_6_4 lf_X8_206 dX8_finish_63 (fun x5 hF => ?_)
      exact w_X8_finish_66 X hr  S (lv_sub hl [] rfl) hF
    · have hF := ab_neg (fun q => q c3) hF
      refine ab_aload_n X dX8_finish_39 rfl (lv_at hl 0 rfl) ?_
      refine ab_getR X S hF fi_8_9 lf_X8_49 dX8_finish_40 (fun x6 hF => ?_)
      refine ab_getD X S hF fi_6_4 lf_X8_206 dX8_finish_43 (fun x7 hF => ?_)
      refine ab_aload_n X dX8_finish_46 rfl (lv_at hl 0 rfl) ?_
      refine ab_getR X S hF fi_8_9 lf_X8_49 dX8_finish_47 (fun x8 hF => ?_)
      refine ab_getD X S hF fi_6_12 lf_X8_203 dX8_finish_50 (fun x9 hF => ?_)
      obtain ⟨x10, h11, e12, hF⟩ := bnd_out hF
      refine ab_callSd X S (c_X8_grown l D cA sz e12) mi_X8_grown lm_X8_307 lt_yX8_grown (As := [.double x7, .double x9]) (rest := [va_rf v1]) rfl ⟨by decide, by decide⟩ ⟨by decide, by decide⟩ hl.1 rfl (by simp [ab_cat, ab_cI, ab_cJ, ab_cD, ab_cF]) dX8_finish_53 (fun H1 locs1 S => ?_)
      refine lv_goto (tgt := 66) X.1 X.2.1 dX8_finish_56 (by decide) ?_
      exact w_X8_finish_66 X hr  S (lv_sub hl [] rfl) hF
def f_X8_finish (this : Nat) (p0 : Option Nat) (p1 : Int32) (p2 : Int32) (p3 : UInt64) (h : Hp) : Option (Unit × Hp) :=
  (getR h (some this) 8 9).bind fun x1 =>
  (ab_ck h p0 (4, 0)).bind fun a5 =>
  bnd (f_X4_take a5 x1 p1 h) fun _ h3 =>
  if p2 = 0 then
    f_X8_finish_26 (some this) p0 p1 h3
  else
    if ¬ p1 = 0 then
      f_X8_finish_26 (some this) p0 p1 h3
    else
      (putD h3 p0 4 1 p3).bind fun h9 =>
      f_X8_finish_69 h9
theorem mi_X8_finish : ab_MI yX8_finish cX8_finish 6 none 4 := ⟨lc_yX8_finish, lz_RX8, by decide, by decide, by decide +kernel⟩
set_option maxHeartbeats 4000000 in
set_option maxRecDepth 100000 in
theorem c_X8_finish (l : Launch) (D : va_G) (cA : Nat → ClassId) (sz : Nat) {this : Nat} {p0 : Option Nat} {p1 : Int32} {p2 : Int32} {p3 : UInt64} {h hh : Hp}  (hF : f_X8_finish this p0 p1 p2 p3 h = some ((), hh)) : ab_C l D cA sz yX8_finish cX8_finish 6 none 5 0 0 [.ref this, va_rf p0, .int p1, .int p2, .double p3] h none hh := by
  refine Met.ofW (cc := cX8_finish) (maxL := 6) (ret := none) (by decide) rfl ?_
  intro p e s m args below meth c s₁ B hml hv
  obtain ⟨rfl, hT, hR⟩ := hv
  have X : ab_X p s m _ meth c cX8_finish 6 RX8 D cA sz := (ab_enter B hml hT hR).1
  have S := (ab_enter B hml hT hR).2
  have hr := B.returns
  obtain ⟨ls, hls, hl⟩ := ab_entry m [.ref this, va_rf p0, .int p1, .int p2, .double p3] 6 (lv := [(0, .ref this), (1, va_rf p0), (2, .int p1), (3, .int p2), (4, .double p3)]) (by simp [lg_sl, ab_cat, ab_cI, ab_cJ, ab_cD, ab_cF, ab_cA]) (by simp [lv_args, ab_cat, ab_cI, ab_cJ, ab_cD, ab_cF, ab_cA])
  rw [hls]
  have hl : lv_has ls 6 [(0, va_rf (some this)), (1, va_rf p0), (2, .int p1), (3, .int p2), (4, .double p3)] := hl
  unfold f_X8_finish at hF
  show W p l e (ab_rm 5 0 0) s m _ below meth c s.heap [] 0 0 _ _
  refine ab_aload_n X dX8_finish_0 rfl (lv_at hl 1 rfl) ?_
  refine ab_aload_n X dX8_finish_1 rfl (lv_at hl 0 rfl) ?_
  refine ab_getR X S hF fi_8_9 lf_X8_49 dX8_finish_2 (fun x1 hF => ?_)
  refine lv_iload_n X.1 X.2.1 dX8_finish_5 rfl (lv_at hl 2 rfl) ?_
  obtain ⟨a5, e6, hF⟩ := bind_out hF
  obtain ⟨x2, h3, e4, hF⟩ := bnd_out hF
  refine ab_callVv X S e6 (c_X4_take l D cA sz e4) rfl (by decide) mi_X4_take lm_X8_303 li_yX4_take ls_yX4_take (As := [va_rf x1, .int p1]) (rest := []) rfl ⟨by decide, by decide⟩ ⟨by decide, by decide⟩ hl.1 rfl (by simp [ab_cat, ab_cI, ab_cJ, ab_cD, ab_cF]) dX8_finish_6 (fun H1 locs1 S => ?_)
  refine lv_iload_n X.1 X.2.1 dX8_finish_9 rfl (lv_at hl 3 rfl) ?_
  refine lv_if_eq (tgt := 26) X.1 X.2.1 dX8_finish_10 (by decide) (fun c7 => ?_) (fun c7 => ?_)
  · have hF := ab_pos c7 hF
    exact w_X8_finish_26 X hr  S (lv_sub hl [0, 1, 2] rfl) hF
  · have hF := ab_neg c7 hF
    refine lv_iload_n X.1 X.2.1 dX8_finish_13 rfl (lv_at hl 2 rfl) ?_
    refine lv_if_ne (tgt := 26) X.1 X.2.1 dX8_finish_14 (by decide) (fun c8 => ?_) (fun c8 => ?_)
    · have hF := ab_pos c8 hF
      exact w_X8_finish_26 X hr  S (lv_sub hl [0, 1, 2] rfl) hF
    · have hF := ab_neg (fun q => q c8) hF
      refine ab_aload_n X dX8_finish_17 rfl (lv_at hl 1 rfl) ?_
      refine lv_dload X.1 X.2.1 dX8_finish_18 (lv_at hl 4 rfl) ?_
      refine ab_putD X S hF fi_4_1 ci_4 (Or.inl rfl) rfl lf_X8_179 dX8_finish_20 (fun h9 H1 locs1 hF S => ?_)
      refine lv_goto (tgt := 69) X.1 X.2.1 dX8_finish_23 (by decide) ?_
      exact w_X8_finish_69 X hr  S (lv_sub hl [] rfl) hF
def f_X4_lookAtEvents_35  : Nat → Option Nat → Int32 → Hp → Option (Unit × Hp)
  | 0, _, _, _ => none
  | n + 1, v0, v1, h => (getR h v0 4 10).bind fun x1 =>
    (getI h x1 0 0).bind fun x2 =>
    if x2 ≤ v1 then
      some ((), h)
    else
      (getR h v0 4 10).bind fun x4 =>
      (ab_ck h x4 (0, 0)).bind fun a8 =>
      bnd (f_X0_earliest a8 h) fun x5 h6 =>
      if 0 ≤ x5 then
        (getR h6 v0 4 10).bind fun x11 =>
        (getR h6 x11 0 5).bind fun x12 =>
        (aldD h6 x12 x5).bind fun x13 =>
        (getR h6 v0 4 10).bind fun x14 =>
        (getR h6 v0 4 11).bind fun x15 =>
        (ab_ck h6 x15 (6, 0)).bind fun a19 =>
        bnd (f_X6_timeAt a19 x13 h6) fun x16 h17 =>
        (ab_ck h17 x14 (0, 0)).bind fun a24 =>
        bnd (f_X0_fire a24 x5 x16 h17) fun _ h22 =>
        (getR h22 v0 4 10).bind fun x26 =>
        (getR h22 x26 0 3).bind fun x27 =>
        (aldI h22 x27 11 x5).bind fun x28 =>
        if x28 = 0 then
          f_X4_lookAtEvents_35 n v0 (v1 + 1) h22
        else
          (ab_ck h22 v0 (4, 0)).bind fun a33 =>
          bnd (f_X4_act a33 x5 x13 h22) fun _ h31 =>
          some ((), h31)
      else
        some ((), h6)
set_option maxHeartbeats 4000000 in
set_option maxRecDepth 100000 in
theorem w_X4_lookAtEvents_35 {p : Program} {l : Launch} {e : Env} {s : State} {m : MethodId} {args : Array Value} {below : List Frame} {meth : Method} {c : Code} {D : va_G} {cA : Nat → ClassId} {sz : Nat}  {hh : Hp}  (X : ab_X p s m args meth c cX4_lookAtEvents 5 RX4 D cA sz) (hr : meth.sig.returnType = none)  (n : Nat) : ∀ (v0 : Option Nat) (v1 : Int32) (h : Hp) (H : Heap) (locs : List Loc) (ls : Array Slot), ab_H D cA sz h s H locs → lv_has ls 5 [(0, va_rf v0), (1, .int v1)] → f_X4_lookAtEvents_35 n v0 v1 h = some ((), hh) → W p l e (ab_rm 5 0 0) s m args below meth c H locs 0 0 (MQ below (ab_Q D cA sz none hh) args s 0 0 (fun q => sz ≤ q)) (F0 m 35 ls []) := by
  induction n with
  | zero => intro v0 v1 h H locs ls S hl hF; cases hF
  | succ n ih =>
    intro v0 v1 h H locs ls S hl hF
    rw [f_X4_lookAtEvents_35] at hF
    refine lv_iload_n X.1 X.2.1 dX4_lookAtEvents_35 rfl (lv_at hl 1 rfl) ?_
    refine ab_aload_n X dX4_lookAtEvents_36 rfl (lv_at hl 0 rfl) ?_
    refine ab_getR X S hF fi_4_10 lf_X4_48 dX4_lookAtEvents_37 (fun x1 hF => ?_)
    refine ab_getI X S hF fi_0_0 lf_X4_90 dX4_lookAtEvents_40 (fun x2 hF => ?_)
    refine lv_icmp_ge (tgt := 110) X.1 X.2.1 dX4_lookAtEvents_43 (by decide) (fun c3 => ?_) (fun c3 => ?_)
    · have hF := ab_pos c3 hF
      exact ab_vret X S hr hF dX4_lookAtEvents_110
    · have hF := ab_neg c3 hF
      refine ab_aload_n X dX4_lookAtEvents_46 rfl (lv_at hl 0 rfl) ?_
      refine ab_getR X S hF fi_4_10 lf_X4_48 dX4_lookAtEvents_47 (fun x4 hF => ?_)
      obtain ⟨a8, e9, hF⟩ := bind_out hF
      obtain ⟨x5, h6, e7, hF⟩ := bnd_out hF
      refine ab_callVi X S e9 (c_X0_earliest l D cA sz e7) rfl (by decide) mi_X0_earliest lm_X4_101 li_yX0_earliest ls_yX0_earliest (As := []) (rest := []) rfl ⟨by decide, by decide⟩ ⟨by decide, by decide⟩ hl.1 rfl (by simp [ab_cat, ab_cI, ab_cJ, ab_cD, ab_cF]) dX4_lookAtEvents_50 (fun H1 locs1 S => ?_)
      refine lv_istore_n (i := 2) (lv' := [(2, .int x5), (0, va_rf v0), (1, .int v1)]) X.1 X.2.1 dX4_lookAtEvents_53 rfl hl (by decide) (by simp [ab_cat, ab_cI, ab_cJ, ab_cD, ab_cF]) (fun ls hl => ?_)
      refine lv_iload_n X.1 X.2.1 dX4_lookAtEvents_54 rfl (lv_at hl 0 rfl) ?_
      refine lv_if_ge (tgt := 59) X.1 X.2.1 dX4_lookAtEvents_55 (by decide) (fun c10 => ?_) (fun c10 => ?_)
      · have hF := ab_pos c10 hF
        refine ab_aload_n X dX4_lookAtEvents_59 rfl (lv_at hl 1 rfl) ?_
        refine ab_getR X S hF fi_4_10 lf_X4_48 dX4_lookAtEvents_60 (fun x11 hF => ?_)
        refine ab_getR X S hF fi_0_5 lf_X4_93 dX4_lookAtEvents_63 (fun x12 hF => ?_)
        refine lv_iload_n X.1 X.2.1 dX4_lookAtEvents_66 rfl (lv_at hl 0 rfl) ?_
        refine ab_aldD X S hF dX4_lookAtEvents_67 (fun x13 hF => ?_)
        refine lv_dstore_n (i := 3) (lv' := [(3, .double x13), (2, .int x5), (0, va_rf v0), (1, .int v1)]) X.1 X.2.1 dX4_lookAtEvents_68 rfl hl (by decide) (by simp [ab_cat, ab_cI, ab_cJ, ab_cD, ab_cF]) (fun ls hl => ?_)
        refine ab_aload_n X dX4_lookAtEvents_69 rfl (lv_at hl 2 rfl) ?_
        refine ab_getR X S hF fi_4_10 lf_X4_48 dX4_lookAtEvents_70 (fun x14 hF => ?_)
        refine lv_iload_n X.1 X.2.1 dX4_lookAtEvents_73 rfl (lv_at hl 1 rfl) ?_
        refine ab_aload_n X dX4_lookAtEvents_74 rfl (lv_at hl 2 rfl) ?_
        refine ab_getR X S hF fi_4_11 lf_X4_57 dX4_lookAtEvents_75 (fun x15 hF => ?_)
        refine lv_dload_n X.1 X.2.1 dX4_lookAtEvents_78 rfl (lv_at hl 0 rfl) ?_
        obtain ⟨a19, e20, hF⟩ := bind_out hF
        obtain ⟨x16, h17, e18, hF⟩ := bnd_out hF
        refine ab_callVd X S e20 (c_X6_timeAt l D cA sz e18) rfl (by decide) mi_X6_timeAt lm_X4_105 li_yX6_timeAt ls_yX6_timeAt (As := [.double x13]) (rest := [.int x5, va_rf x14]) rfl ⟨by decide, by decide⟩ ⟨by decide, by decide⟩ hl.1 rfl (by simp [ab_cat, ab_cI, ab_cJ, ab_cD, ab_cF]) dX4_lookAtEvents_79 (fun H1 locs1 S => ?_)
        obtain ⟨a24, e25, hF⟩ := bind_out hF
        obtain ⟨x21, h22, e23, hF⟩ := bnd_out hF
        refine ab_callVv X S e25 (c_X0_fire l D cA sz e23) rfl (by decide) mi_X0_fire lm_X4_109 li_yX0_fire ls_yX0_fire (As := [.int x5, .double x16]) (rest := []) rfl ⟨by decide, by decide⟩ ⟨by decide, by decide⟩ hl.1 rfl (by simp [ab_cat, ab_cI, ab_cJ, ab_cD, ab_cF]) dX4_lookAtEvents_82 (fun H1 locs1 S => ?_)
        refine ab_aload_n X dX4_lookAtEvents_85 rfl (lv_at hl 2 rfl) ?_
        refine ab_getR X S hF fi_4_10 lf_X4_48 dX4_lookAtEvents_86 (fun x26 hF => ?_)
        refine ab_getR X S hF fi_0_3 lf_X4_113 dX4_lookAtEvents_89 (fun x27 hF => ?_)
        refine lv_iload_n X.1 X.2.1 dX4_lookAtEvents_92 rfl (lv_at hl 1 rfl) ?_
        refine ab_aldI X S hF dX4_lookAtEvents_93 (fun x28 hF => ?_)
        refine lv_if_eq (tgt := 104) X.1 X.2.1 dX4_lookAtEvents_94 (by decide) (fun c29 => ?_) (fun c29 => ?_)
        · have hF := ab_pos c29 hF
          refine lv_iinc (v := v1 + 1) (lv' := [(1, .int (v1 + 1)), (3, .double x13), (2, .int x5), (0, va_rf v0)]) X.1 X.2.1 dX4_lookAtEvents_104 hl (k := 3) rfl (by rfl) (by decide) (by simp [ab_cat, ab_cI, ab_cJ, ab_cD, ab_cF]) (fun ls hl => ?_)
          refine lv_goto (tgt := 35) X.1 X.2.1 dX4_lookAtEvents_107 (by decide) ?_
          exact ih _ _ _ _ _ _ S (lv_sub hl [3, 0] rfl) hF
        · have hF := ab_neg c29 hF
          refine ab_aload_n X dX4_lookAtEvents_97 rfl (lv_at hl 2 rfl) ?_
          refine lv_iload_n X.1 X.2.1 dX4_lookAtEvents_98 rfl (lv_at hl 1 rfl) ?_
          refine lv_dload_n X.1 X.2.1 dX4_lookAtEvents_99 rfl (lv_at hl 0 rfl) ?_
          obtain ⟨a33, e34, hF⟩ := bind_out hF
          obtain ⟨x30, h31, e32, hF⟩ := bnd_out hF
          refine ab_callVv X S e34 (c_X4_act l D cA sz e32) rfl (by decide) mi_X4_act lm_X4_117 li_yX4_act ls_yX4_act (As := [.int x5, .double x13]) (rest := []) rfl ⟨by decide, by decide⟩ ⟨by decide, by decide⟩ hl.1 rfl (by simp [ab_cat, ab_cI, ab_cJ, ab_cD, ab_cF]) dX4_lookAtEvents_100 (fun H1 locs1 S => ?_)
          exact ab_vret X S hr hF dX4_lookAtEvents_103
      · have hF := ab_neg c10 hF
        exact ab_vret X S hr hF dX4_lookAtEvents_58
def f_X4_lookAtEvents_2  : Nat → Option Nat → Int32 → Hp → Option (Unit × Hp)
  | 0, _, _, _ => none
  | n + 1, v0, v1, h => (getR h v0 4 10).bind fun x1 =>
    (getI h x1 0 0).bind fun x2 =>
    if x2 ≤ v1 then
      f_X4_lookAtEvents_35 fuelN v0 0 h
    else
      (getR h v0 4 10).bind fun x4 =>
      (getR h x4 0 5).bind fun x5 =>
      (ab_ck h v0 (4, 0)).bind fun a9 =>
      bnd (f_X4_highOf a9 v1 h) fun x6 h7 =>
      (astD h7 x5 v1 x6).bind fun h11 =>
      f_X4_lookAtEvents_2 n v0 (v1 + 1) h11
set_option maxHeartbeats 4000000 in
set_option maxRecDepth 100000 in
theorem w_X4_lookAtEvents_2 {p : Program} {l : Launch} {e : Env} {s : State} {m : MethodId} {args : Array Value} {below : List Frame} {meth : Method} {c : Code} {D : va_G} {cA : Nat → ClassId} {sz : Nat}  {hh : Hp}  (X : ab_X p s m args meth c cX4_lookAtEvents 5 RX4 D cA sz) (hr : meth.sig.returnType = none)  (n : Nat) : ∀ (v0 : Option Nat) (v1 : Int32) (h : Hp) (H : Heap) (locs : List Loc) (ls : Array Slot), ab_H D cA sz h s H locs → lv_has ls 5 [(0, va_rf v0), (1, .int v1)] → f_X4_lookAtEvents_2 n v0 v1 h = some ((), hh) → W p l e (ab_rm 5 0 0) s m args below meth c H locs 0 0 (MQ below (ab_Q D cA sz none hh) args s 0 0 (fun q => sz ≤ q)) (F0 m 2 ls []) := by
  induction n with
  | zero => intro v0 v1 h H locs ls S hl hF; cases hF
  | succ n ih =>
    intro v0 v1 h H locs ls S hl hF
    rw [f_X4_lookAtEvents_2] at hF
    refine lv_iload_n X.1 X.2.1 dX4_lookAtEvents_2 rfl (lv_at hl 1 rfl) ?_
    refine ab_aload_n X dX4_lookAtEvents_3 rfl (lv_at hl 0 rfl) ?_
    refine ab_getR X S hF fi_4_10 lf_X4_48 dX4_lookAtEvents_4 (fun x1 hF => ?_)
    refine ab_getI X S hF fi_0_0 lf_X4_90 dX4_lookAtEvents_7 (fun x2 hF => ?_)
    refine lv_icmp_ge (tgt := 33) X.1 X.2.1 dX4_lookAtEvents_10 (by decide) (fun c3 => ?_) (fun c3 => ?_)
    · have hF := ab_pos c3 hF
      refine lv_iconst (v := 0) X.1 X.2.1 dX4_lookAtEvents_33 (by decide) ?_
      refine lv_istore_n (i := 1) (lv' := [(1, .int 0), (0, va_rf v0)]) X.1 X.2.1 dX4_lookAtEvents_34 rfl hl (by decide) (by simp [ab_cat, ab_cI, ab_cJ, ab_cD, ab_cF]) (fun ls hl => ?_)
      exact w_X4_lookAtEvents_35 X hr  fuelN _ _ _ _ _ _ S (lv_sub hl [1, 0] rfl) hF
    · have hF := ab_neg c3 hF
      refine ab_aload_n X dX4_lookAtEvents_13 rfl (lv_at hl 0 rfl) ?_
      refine ab_getR X S hF fi_4_10 lf_X4_48 dX4_lookAtEvents_14 (fun x4 hF => ?_)
      refine ab_getR X S hF fi_0_5 lf_X4_93 dX4_lookAtEvents_17 (fun x5 hF => ?_)
      refine lv_iload_n X.1 X.2.1 dX4_lookAtEvents_20 rfl (lv_at hl 1 rfl) ?_
      refine ab_aload_n X dX4_lookAtEvents_21 rfl (lv_at hl 0 rfl) ?_
      refine lv_iload_n X.1 X.2.1 dX4_lookAtEvents_22 rfl (lv_at hl 1 rfl) ?_
      obtain ⟨a9, e10, hF⟩ := bind_out hF
      obtain ⟨x6, h7, e8, hF⟩ := bnd_out hF
      refine ab_callVd X S e10 (c_X4_highOf l D cA sz e8) rfl (by decide) mi_X4_highOf lm_X4_97 li_yX4_highOf ls_yX4_highOf (As := [.int v1]) (rest := [.int v1, va_rf x5]) rfl ⟨by decide, by decide⟩ ⟨by decide, by decide⟩ hl.1 rfl (by simp [ab_cat, ab_cI, ab_cJ, ab_cD, ab_cF]) dX4_lookAtEvents_23 (fun H1 locs1 S => ?_)
      refine ab_astD X S hF dX4_lookAtEvents_26 (fun h11 H1 locs1 hF S => ?_)
      refine lv_iinc (v := v1 + 1) (lv' := [(1, .int (v1 + 1)), (0, va_rf v0)]) X.1 X.2.1 dX4_lookAtEvents_27 hl (k := 1) rfl (by rfl) (by decide) (by simp [ab_cat, ab_cI, ab_cJ, ab_cD, ab_cF]) (fun ls hl => ?_)
      refine lv_goto (tgt := 2) X.1 X.2.1 dX4_lookAtEvents_30 (by decide) ?_
      exact ih _ _ _ _ _ _ S (lv_sub hl [1, 0] rfl) hF
def f_X4_lookAtEvents (this : Nat) (h : Hp) : Option (Unit × Hp) :=
  f_X4_lookAtEvents_2 fuelN (some this) 0 h
theorem mi_X4_lookAtEvents : ab_MI yX4_lookAtEvents cX4_lookAtEvents 5 none 0 := ⟨lc_yX4_lookAtEvents, lz_RX4, by decide, by decide, by decide +kernel⟩
set_option maxHeartbeats 4000000 in
set_option maxRecDepth 100000 in
theorem c_X4_lookAtEvents (l : Launch) (D : va_G) (cA : Nat → ClassId) (sz : Nat) {this : Nat} {h hh : Hp}  (hF : f_X4_lookAtEvents this h = some ((), hh)) : ab_C l D cA sz yX4_lookAtEvents cX4_lookAtEvents 5 none 5 0 0 [.ref this] h none hh := by
  refine Met.ofW (cc := cX4_lookAtEvents) (maxL := 5) (ret := none) (by decide) rfl ?_
  intro p e s m args below meth c s₁ B hml hv
  obtain ⟨rfl, hT, hR⟩ := hv
  have X : ab_X p s m _ meth c cX4_lookAtEvents 5 RX4 D cA sz := (ab_enter B hml hT hR).1
  have S := (ab_enter B hml hT hR).2
  have hr := B.returns
  obtain ⟨ls, hls, hl⟩ := ab_entry m [.ref this] 5 (lv := [(0, .ref this)]) (by simp [lg_sl, ab_cat, ab_cI, ab_cJ, ab_cD, ab_cF, ab_cA]) (by simp [lv_args, ab_cat, ab_cI, ab_cJ, ab_cD, ab_cF, ab_cA])
  rw [hls]
  have hl : lv_has ls 5 [(0, va_rf (some this))] := hl
  unfold f_X4_lookAtEvents at hF
  show W p l e (ab_rm 5 0 0) s m _ below meth c s.heap [] 0 0 _ _
  refine lv_iconst (v := 0) X.1 X.2.1 dX4_lookAtEvents_0 (by decide) ?_
  refine lv_istore_n (i := 1) (lv' := [(1, .int 0), (0, va_rf (some this))]) X.1 X.2.1 dX4_lookAtEvents_1 rfl hl (by decide) (by simp [ab_cat, ab_cI, ab_cJ, ab_cD, ab_cF]) (fun ls hl => ?_)
  exact w_X4_lookAtEvents_2 X hr  fuelN _ _ _ _ _ _ S (lv_sub hl [1, 0] rfl) hF
def f_X8_advance_126 (k_6 : Option Nat → Option Nat → Int32 → UInt64 → UInt64 → Int32 → Hp → Option (Int32 × Hp)) (v0 : Option Nat) (v1 : Option Nat) (v4 : Int32) (v5 : UInt64) (v9 : Int32) (u0 : UInt64) (h : Hp) : Option (Int32 × Hp) :=
  bnd (f_X8_size u0 h) fun x1 h2 =>
  bnd (f_X8_isTooSmall x1 h2) fun x4 h5 =>
  if x4 = 0 then
    k_6 v0 v1 v4 v5 u0 (v9 + 1) h5
  else
    some ((-5), h5)
set_option maxHeartbeats 4000000 in
set_option maxRecDepth 100000 in
theorem w_X8_advance_126 {p : Program} {l : Launch} {e : Env} {s : State} {m : MethodId} {args : Array Value} {below : List Frame} {meth : Method} {c : Code} {D : va_G} {cA : Nat → ClassId} {sz : Nat} {rr : Int32} {hh : Hp} {k_6 : Option Nat → Option Nat → Int32 → UInt64 → UInt64 → Int32 → Hp → Option (Int32 × Hp)} (X : ab_X p s m args meth c cX8_advance 10 RX8 D cA sz) (hr : meth.sig.returnType = (some .int)) (hk_6 : ∀ (v0 : Option Nat) (v1 : Option Nat) (v4 : Int32) (v5 : UInt64) (v7 : UInt64) (v9 : Int32) (h : Hp) (H : Heap) (locs : List Loc) (ls : Array Slot), ab_H D cA sz h s H locs → lv_has ls 10 [(0, va_rf v0), (1, va_rf v1), (4, .int v4), (5, .double v5), (7, .double v7), (9, .int v9)] → k_6 v0 v1 v4 v5 v7 v9 h = some (rr, hh) → W p l e (ab_rm 6 0 0) s m args below meth c H locs 0 0 (MQ below (ab_Q D cA sz (some (.int rr)) hh) args s 0 0 (fun q => sz ≤ q)) (F0 m 6 ls [])) {H : Heap} {locs : List Loc} {ls : Array Slot} {v0 : Option Nat} {v1 : Option Nat} {v4 : Int32} {v5 : UInt64} {v9 : Int32} {u0 : UInt64} {h : Hp} (S : ab_H D cA sz h s H locs) (hl : lv_has ls 10 [(0, va_rf v0), (1, va_rf v1), (4, .int v4), (5, .double v5), (9, .int v9)]) (hF : f_X8_advance_126 k_6 v0 v1 v4 v5 v9 u0 h = some (rr, hh)) : W p l e (ab_rm 6 0 0) s m args below meth c H locs 0 0 (MQ below (ab_Q D cA sz (some (.int rr)) hh) args s 0 0 (fun q => sz ≤ q)) (F0 m 126 ls [.double u0]) := by
  unfold f_X8_advance_126 at hF
  refine lv_dstore (lv' := [(7, .double u0), (0, va_rf v0), (1, va_rf v1), (4, .int v4), (5, .double v5), (9, .int v9)]) X.1 X.2.1 dX8_advance_126 hl (by decide) (by simp [ab_cat, ab_cI, ab_cJ, ab_cD, ab_cF]) (fun ls hl => ?_)
  refine lv_dload X.1 X.2.1 dX8_advance_128 (lv_at hl 0 rfl) ?_
  obtain ⟨x1, h2, e3, hF⟩ := bnd_out hF
  refine ab_callSd X S (c_X8_size l D cA sz e3) mi_X8_size lm_X8_146 lt_yX8_size (As := [.double u0]) (rest := []) rfl ⟨by decide, by decide⟩ ⟨by decide, by decide⟩ hl.1 rfl (by simp [ab_cat, ab_cI, ab_cJ, ab_cD, ab_cF]) dX8_advance_130 (fun H1 locs1 S => ?_)
  obtain ⟨x4, h5, e6, hF⟩ := bnd_out hF
  refine ab_callSi X S (c_X8_isTooSmall l D cA sz e6) mi_X8_isTooSmall lm_X8_152 lt_yX8_isTooSmall (As := [.double x1]) (rest := []) rfl ⟨by decide, by decide⟩ ⟨by decide, by decide⟩ hl.1 rfl (by simp [ab_cat, ab_cI, ab_cJ, ab_cD, ab_cF]) dX8_advance_133 (fun H1 locs1 S => ?_)
  refine lv_if_eq (tgt := 142) X.1 X.2.1 dX8_advance_136 (by decide) (fun c7 => ?_) (fun c7 => ?_)
  · have hF := ab_pos c7 hF
    refine lv_iinc (v := v9 + 1) (lv' := [(9, .int (v9 + 1)), (7, .double u0), (0, va_rf v0), (1, va_rf v1), (4, .int v4), (5, .double v5)]) X.1 X.2.1 dX8_advance_142 hl (k := 5) rfl (by rfl) (by decide) (by simp [ab_cat, ab_cI, ab_cJ, ab_cD, ab_cF]) (fun ls hl => ?_)
    refine lv_goto (tgt := 6) X.1 X.2.1 dX8_advance_145 (by decide) ?_
    exact hk_6 _ _ _ _ _ _ _ _ _ _ S (lv_sub hl [2, 3, 4, 5, 1, 0] rfl) hF
  · have hF := ab_neg c7 hF
    refine lv_bipush (v := (-5)) X.1 X.2.1 dX8_advance_139 (by decide) ?_
    exact ab_iret X S hr hF dX8_advance_141
def f_X8_advance_67 (k_6 : Option Nat → Option Nat → Int32 → UInt64 → UInt64 → Int32 → Hp → Option (Int32 × Hp)) (v0 : Option Nat) (v1 : Option Nat) (v4 : Int32) (v5 : UInt64) (v7 : UInt64) (v9 : Int32) (h : Hp) : Option (Int32 × Hp) :=
  (getR h v0 8 9).bind fun x1 =>
  (getD h x1 6 12).bind fun x2 =>
  if 0 < (Op.cmpValue (FP.dcmp x2 FP.dconst1) CmpOp.g) then
    (getR h v0 8 9).bind fun x4 =>
    (getD h x4 6 12).bind fun x5 =>
    if 0 < (Op.cmpValue (FP.dcmp x5 4620693217682128896) CmpOp.g) then
      (fop (FP.ddiv v7 4616189618054758400)).bind fun x7 =>
      f_X8_advance_126 k_6 v0 v1 v4 v5 v9 x7 h
    else
      (fop (FP.ddiv v7 4611686018427387904)).bind fun x8 =>
      f_X8_advance_126 k_6 v0 v1 v4 v5 v9 x8 h
  else
    (ab_ck h v0 (8, 0)).bind fun a12 =>
    bnd (f_X8_finish a12 v1 v9 v4 v5 h) fun _ h10 =>
    (ab_ck h10 v1 (4, 0)).bind fun a17 =>
    bnd (f_X4_lookAtEvents a17 h10) fun _ h15 =>
    some (v9, h15)
set_option maxHeartbeats 4000000 in
set_option maxRecDepth 100000 in
theorem w_X8_advance_67 {p : Program} {l : Launch} {e : Env} {s : State} {m : MethodId} {args : Array Value} {below : List Frame} {meth : Method} {c : Code} {D : va_G} {cA : Nat → ClassId} {sz : Nat} {rr : Int32} {hh : Hp} {k_6 : Option Nat → Option Nat → Int32 → UInt64 → UInt64 → Int32 → Hp → Option (Int32 × Hp)} (X : ab_X p s m args meth c cX8_advance 10 RX8 D cA sz) (hr : meth.sig.returnType = (some .int)) (hk_6 : ∀ (v0 : Option Nat) (v1 : Option Nat) (v4 : Int32) (v5 : UInt64) (v7 : UInt64) (v9 : Int32) (h : Hp) (H : Heap) (locs : List Loc) (ls : Array Slot), ab_H D cA sz h s H locs → lv_has ls 10 [(0, va_rf v0), (1, va_rf v1), (4, .int v4), (5, .double v5), (7, .double v7), (9, .int v9)] → k_6 v0 v1 v4 v5 v7 v9 h = some (rr, hh) → W p l e (ab_rm 6 0 0) s m args below meth c H locs 0 0 (MQ below (ab_Q D cA sz (some (.int rr)) hh) args s 0 0 (fun q => sz ≤ q)) (F0 m 6 ls [])) {H : Heap} {locs : List Loc} {ls : Array Slot} {v0 : Option Nat} {v1 : Option Nat} {v4 : Int32} {v5 : UInt64} {v7 : UInt64} {v9 : Int32} {h : Hp} (S : ab_H D cA sz h s H locs) (hl : lv_has ls 10 [(0, va_rf v0), (1, va_rf v1), (4, .int v4), (5, .double v5), (7, .double v7), (9, .int v9)]) (hF : f_X8_advance_67 k_6 v0 v1 v4 v5 v7 v9 h = some (rr, hh)) : W p l e (ab_rm 6 0 0) s m args below meth c H locs 0 0 (MQ below (ab_Q D cA sz (some (.int rr)) hh) args s 0 0 (fun q => sz ≤ q)) (F0 m 67 ls []) := by
  unfold f_X8_advance_67 at hF
  refine ab_aload_n X dX8_advance_67 rfl (lv_at hl 0 rfl) ?_
  refine ab_getR X S hF fi_8_9 lf_X8_49 dX8_advance_68 (fun x1 hF => ?_)
  refine ab_getD X S hF fi_6_12 lf_X8_203 dX8_advance_71 (fun x2 hF => ?_)
  refine lv_dconst1 X.1 X.2.1 dX8_advance_74 ?_
  refine lv_dcmp X.1 X.2.1 dX8_advance_75 ?_
  refine lv_if_gt (tgt := 97) X.1 X.2.1 dX8_advance_76 (by decide) (fun c3 => ?_) (fun c3 => ?_)
  · have hF := ab_pos c3 hF
    refine ab_aload_n X dX8_advance_97 rfl (lv_at hl 0 rfl) ?_
    refine ab_getR X S hF fi_8_9 lf_X8_49 dX8_advance_98 (fun x4 hF => ?_)
    refine ab_getD X S hF fi_6_12 lf_X8_203 dX8_advance_101 (fun x5 hF => ?_)
    refine lv_ldc2d (v := 4620693217682128896) X.1 X.2.1 X.2.2.2.1 (X.2.2.2.2.1 _ ld_X8_299) dX8_advance_104 ?_
    refine lv_dcmp X.1 X.2.1 dX8_advance_107 ?_
    refine lv_if_gt (tgt := 120) X.1 X.2.1 dX8_advance_108 (by decide) (fun c6 => ?_) (fun c6 => ?_)
    · have hF := ab_pos c6 hF
      refine lv_dload X.1 X.2.1 dX8_advance_120 (lv_at hl 4 rfl) ?_
      refine lv_ldc2d (v := 4616189618054758400) X.1 X.2.1 X.2.2.2.1 (X.2.2.2.2.1 _ ld_X8_301) dX8_advance_122 ?_
      obtain ⟨x7, ev, ne, hF⟩ := ab_fopx hF
      refine lv_ddiv X.1 X.2.1 dX8_advance_125 ne ?_
      rw [ev]
      exact w_X8_advance_126 X hr hk_6 S (lv_sub hl [0, 1, 2, 3, 5] rfl) hF
    · have hF := ab_neg c6 hF
      refine lv_dload X.1 X.2.1 dX8_advance_111 (lv_at hl 4 rfl) ?_
      refine lv_ldc2d (v := 4611686018427387904) X.1 X.2.1 X.2.2.2.1 (X.2.2.2.2.1 _ ld_X8_263) dX8_advance_113 ?_
      obtain ⟨x8, ev, ne, hF⟩ := ab_fopx hF
      refine lv_ddiv X.1 X.2.1 dX8_advance_116 ne ?_
      rw [ev]
      refine lv_goto (tgt := 126) X.1 X.2.1 dX8_advance_117 (by decide) ?_
      exact w_X8_advance_126 X hr hk_6 S (lv_sub hl [0, 1, 2, 3, 5] rfl) hF
  · have hF := ab_neg c3 hF
    refine ab_aload_n X dX8_advance_79 rfl (lv_at hl 0 rfl) ?_
    refine ab_aload_n X dX8_advance_80 rfl (lv_at hl 1 rfl) ?_
    refine lv_iload X.1 X.2.1 dX8_advance_81 (lv_at hl 5 rfl) ?_
    refine lv_iload X.1 X.2.1 dX8_advance_83 (lv_at hl 2 rfl) ?_
    refine lv_dload X.1 X.2.1 dX8_advance_85 (lv_at hl 3 rfl) ?_
    obtain ⟨a12, e13, hF⟩ := bind_out hF
    obtain ⟨x9, h10, e11, hF⟩ := bnd_out hF
    refine ab_callVv X S e13 (c_X8_finish l D cA sz e11) rfl (by decide) mi_X8_finish lm_X8_292 li_yX8_finish ls_yX8_finish (As := [va_rf v1, .int v9, .int v4, .double v5]) (rest := []) rfl ⟨by decide, by decide⟩ ⟨by decide, by decide⟩ hl.1 rfl (by simp [ab_cat, ab_cI, ab_cJ, ab_cD, ab_cF]) dX8_advance_87 (fun H1 locs1 S => ?_)
    refine ab_aload_n X dX8_advance_90 rfl (lv_at hl 1 rfl) ?_
    obtain ⟨a17, e18, hF⟩ := bind_out hF
    obtain ⟨x14, h15, e16, hF⟩ := bnd_out hF
    refine ab_callVv X S e18 (c_X4_lookAtEvents l D cA sz e16) rfl (by decide) mi_X4_lookAtEvents lm_X8_296 li_yX4_lookAtEvents ls_yX4_lookAtEvents (As := []) (rest := []) rfl ⟨by decide, by decide⟩ ⟨by decide, by decide⟩ hl.1 rfl (by simp [ab_cat, ab_cI, ab_cJ, ab_cD, ab_cF]) dX8_advance_91 (fun H1 locs1 S => ?_)
    refine lv_iload X.1 X.2.1 dX8_advance_94 (lv_at hl 5 rfl) ?_
    exact ab_iret X S hr hF dX8_advance_96
def f_X8_advance_6  : Nat → Option Nat → Option Nat → Int32 → UInt64 → UInt64 → Int32 → Hp → Option (Int32 × Hp)
  | 0, _, _, _, _, _, _, _ => none
  | n + 1, v0, v1, v4, v5, v7, v9, h => if 20 ≤ v9 then
      some ((-5), h)
    else
      (getR h v0 8 9).bind fun x2 =>
      (getR h v1 4 0).bind fun x3 =>
      (getI h v1 4 3).bind fun x4 =>
      (getD h v1 4 1).bind fun x5 =>
      (getR h v1 4 2).bind fun x6 =>
      (ab_ck h x2 (6, 0)).bind fun a10 =>
      bnd (f_X6_make a10 x3 x4 x5 x6 v7 h) fun x7 h8 =>
      if ¬ x7 = 0 then
        (getI h8 v1 4 3).bind fun x13 =>
        if ¬ x13 = 4 then
          f_X8_advance_67 (f_X8_advance_6 n) v0 v1 v4 v5 v7 v9 h8
        else
          (getR h8 v0 8 9).bind fun x15 =>
          (getD h8 v1 4 5).bind fun x16 =>
          (getD h8 v1 4 6).bind fun x17 =>
          (ab_ck h8 x15 (6, 0)).bind fun a21 =>
          bnd (f_X6_judge a21 x16 x17 h8) fun _ h19 =>
          f_X8_advance_67 (f_X8_advance_6 n) v0 v1 v4 v5 v7 v9 h19
      else
        some ((-4), h8)
set_option maxHeartbeats 4000000 in
set_option maxRecDepth 100000 in
theorem w_X8_advance_6 {p : Program} {l : Launch} {e : Env} {s : State} {m : MethodId} {args : Array Value} {below : List Frame} {meth : Method} {c : Code} {D : va_G} {cA : Nat → ClassId} {sz : Nat} {rr : Int32} {hh : Hp}  (X : ab_X p s m args meth c cX8_advance 10 RX8 D cA sz) (hr : meth.sig.returnType = (some .int))  (n : Nat) : ∀ (v0 : Option Nat) (v1 : Option Nat) (v4 : Int32) (v5 : UInt64) (v7 : UInt64) (v9 : Int32) (h : Hp) (H : Heap) (locs : List Loc) (ls : Array Slot), ab_H D cA sz h s H locs → lv_has ls 10 [(0, va_rf v0), (1, va_rf v1), (4, .int v4), (5, .double v5), (7, .double v7), (9, .int v9)] → f_X8_advance_6 n v0 v1 v4 v5 v7 v9 h = some (rr, hh) → W p l e (ab_rm 6 0 0) s m args below meth c H locs 0 0 (MQ below (ab_Q D cA sz (some (.int rr)) hh) args s 0 0 (fun q => sz ≤ q)) (F0 m 6 ls []) := by
  induction n with
  | zero => intro v0 v1 v4 v5 v7 v9 h H locs ls S hl hF; cases hF
  | succ n ih =>
    intro v0 v1 v4 v5 v7 v9 h H locs ls S hl hF
    rw [f_X8_advance_6] at hF
    refine lv_iload X.1 X.2.1 dX8_advance_6 (lv_at hl 5 rfl) ?_
    refine lv_bipush (v := 20) X.1 X.2.1 dX8_advance_8 (by decide) ?_
    refine lv_icmp_ge (tgt := 148) X.1 X.2.1 dX8_advance_10 (by decide) (fun c1 => ?_) (fun c1 => ?_)
    · have hF := ab_pos c1 hF
      refine lv_bipush (v := (-5)) X.1 X.2.1 dX8_advance_148 (by decide) ?_
      exact ab_iret X S hr hF dX8_advance_150
    · have hF := ab_neg c1 hF
      refine ab_aload_n X dX8_advance_13 rfl (lv_at hl 0 rfl) ?_
      refine ab_getR X S hF fi_8_9 lf_X8_49 dX8_advance_14 (fun x2 hF => ?_)
      refine ab_aload_n X dX8_advance_17 rfl (lv_at hl 1 rfl) ?_
      refine ab_getR X S hF fi_4_0 lf_X8_92 dX8_advance_18 (fun x3 hF => ?_)
      refine ab_aload_n X dX8_advance_21 rfl (lv_at hl 1 rfl) ?_
      refine ab_getI X S hF fi_4_3 lf_X8_143 dX8_advance_22 (fun x4 hF => ?_)
      refine ab_aload_n X dX8_advance_25 rfl (lv_at hl 1 rfl) ?_
      refine ab_getD X S hF fi_4_1 lf_X8_179 dX8_advance_26 (fun x5 hF => ?_)
      refine ab_aload_n X dX8_advance_29 rfl (lv_at hl 1 rfl) ?_
      refine ab_getR X S hF fi_4_2 lf_X8_127 dX8_advance_30 (fun x6 hF => ?_)
      refine lv_dload X.1 X.2.1 dX8_advance_33 (lv_at hl 4 rfl) ?_
      obtain ⟨a10, e11, hF⟩ := bind_out hF
      obtain ⟨x7, h8, e9, hF⟩ := bnd_out hF
      refine ab_callVi X S e11 (c_X6_make l D cA sz e9) rfl (by decide) mi_X6_make lm_X8_265 li_yX6_make ls_yX6_make (As := [va_rf x3, .int x4, .double x5, va_rf x6, .double v7]) (rest := []) rfl ⟨by decide, by decide⟩ ⟨by decide, by decide⟩ hl.1 rfl (by simp [ab_cat, ab_cI, ab_cJ, ab_cD, ab_cF]) dX8_advance_35 (fun H1 locs1 S => ?_)
      refine lv_if_ne (tgt := 44) X.1 X.2.1 dX8_advance_38 (by decide) (fun c12 => ?_) (fun c12 => ?_)
      · have hF := ab_pos c12 hF
        refine ab_aload_n X dX8_advance_44 rfl (lv_at hl 1 rfl) ?_
        refine ab_getI X S hF fi_4_3 lf_X8_143 dX8_advance_45 (fun x13 hF => ?_)
        refine lv_iconst (v := 4) X.1 X.2.1 dX8_advance_48 (by decide) ?_
        refine lv_icmp_ne (tgt := 67) X.1 X.2.1 dX8_advance_49 (by decide) (fun c14 => ?_) (fun c14 => ?_)
        · have hF := ab_pos c14 hF
          exact w_X8_advance_67 X hr ih S (lv_sub hl [0, 1, 2, 3, 4, 5] rfl) hF
        · have hF := ab_neg (fun q => q c14) hF
          refine ab_aload_n X dX8_advance_52 rfl (lv_at hl 0 rfl) ?_
          refine ab_getR X S hF fi_8_9 lf_X8_49 dX8_advance_53 (fun x15 hF => ?_)
          refine ab_aload_n X dX8_advance_56 rfl (lv_at hl 1 rfl) ?_
          refine ab_getD X S hF fi_4_5 lf_X8_160 dX8_advance_57 (fun x16 hF => ?_)
          refine ab_aload_n X dX8_advance_60 rfl (lv_at hl 1 rfl) ?_
          refine ab_getD X S hF fi_4_6 lf_X8_163 dX8_advance_61 (fun x17 hF => ?_)
          obtain ⟨a21, e22, hF⟩ := bind_out hF
          obtain ⟨x18, h19, e20, hF⟩ := bnd_out hF
          refine ab_callVv X S e22 (c_X6_judge l D cA sz e20) rfl (by decide) mi_X6_judge lm_X8_288 li_yX6_judge ls_yX6_judge (As := [.double x16, .double x17]) (rest := []) rfl ⟨by decide, by decide⟩ ⟨by decide, by decide⟩ hl.1 rfl (by simp [ab_cat, ab_cI, ab_cJ, ab_cD, ab_cF]) dX8_advance_64 (fun H1 locs1 S => ?_)
          exact w_X8_advance_67 X hr ih S (lv_sub hl [0, 1, 2, 3, 4, 5] rfl) hF
      · have hF := ab_neg (fun q => q c12) hF
        refine lv_bipush (v := (-4)) X.1 X.2.1 dX8_advance_41 (by decide) ?_
        exact ab_iret X S hr hF dX8_advance_43
def f_X8_advance (this : Nat) (p0 : Option Nat) (p1 : UInt64) (p2 : Int32) (p3 : UInt64) (h : Hp) : Option (Int32 × Hp) :=
  f_X8_advance_6 fuelN (some this) p0 p2 p3 p1 0 h
theorem mi_X8_advance : ab_MI yX8_advance cX8_advance 10 (some .int) 4 := ⟨lc_yX8_advance, lz_RX8, by decide, by decide, by decide +kernel⟩
set_option maxHeartbeats 4000000 in
set_option maxRecDepth 100000 in
theorem c_X8_advance (l : Launch) (D : va_G) (cA : Nat → ClassId) (sz : Nat) {this : Nat} {p0 : Option Nat} {p1 : UInt64} {p2 : Int32} {p3 : UInt64} {h hh : Hp} {rr : Int32} (hF : f_X8_advance this p0 p1 p2 p3 h = some (rr, hh)) : ab_C l D cA sz yX8_advance cX8_advance 10 (some .int) 6 0 0 [.ref this, va_rf p0, .double p1, .int p2, .double p3] h (some (.int rr)) hh := by
  refine Met.ofW (cc := cX8_advance) (maxL := 10) (ret := (some .int)) (by decide) rfl ?_
  intro p e s m args below meth c s₁ B hml hv
  obtain ⟨rfl, hT, hR⟩ := hv
  have X : ab_X p s m _ meth c cX8_advance 10 RX8 D cA sz := (ab_enter B hml hT hR).1
  have S := (ab_enter B hml hT hR).2
  have hr := B.returns
  obtain ⟨ls, hls, hl⟩ := ab_entry m [.ref this, va_rf p0, .double p1, .int p2, .double p3] 10 (lv := [(0, .ref this), (1, va_rf p0), (2, .double p1), (4, .int p2), (5, .double p3)]) (by simp [lg_sl, ab_cat, ab_cI, ab_cJ, ab_cD, ab_cF, ab_cA]) (by simp [lv_args, ab_cat, ab_cI, ab_cJ, ab_cD, ab_cF, ab_cA])
  rw [hls]
  have hl : lv_has ls 10 [(0, va_rf (some this)), (1, va_rf p0), (2, .double p1), (4, .int p2), (5, .double p3)] := hl
  unfold f_X8_advance at hF
  show W p l e (ab_rm 6 0 0) s m _ below meth c s.heap [] 0 0 _ _
  refine lv_dload_n X.1 X.2.1 dX8_advance_0 rfl (lv_at hl 2 rfl) ?_
  refine lv_dstore (lv' := [(7, .double p1), (0, va_rf (some this)), (1, va_rf p0), (2, .double p1), (4, .int p2), (5, .double p3)]) X.1 X.2.1 dX8_advance_1 hl (by decide) (by simp [ab_cat, ab_cI, ab_cJ, ab_cD, ab_cF]) (fun ls hl => ?_)
  refine lv_iconst (v := 0) X.1 X.2.1 dX8_advance_3 (by decide) ?_
  refine lv_istore (lv' := [(9, .int 0), (7, .double p1), (0, va_rf (some this)), (1, va_rf p0), (2, .double p1), (4, .int p2), (5, .double p3)]) X.1 X.2.1 dX8_advance_4 hl (by decide) (by simp [ab_cat, ab_cI, ab_cJ, ab_cD, ab_cF]) (fun ls hl => ?_)
  exact w_X8_advance_6 X hr  fuelN _ _ _ _ _ _ _ _ _ _ S (lv_sub hl [2, 3, 5, 6, 1, 0] rfl) hF
def f_X8_step (this : Nat) (p0 : Int32) (h : Hp) : Option (Int32 × Hp) :=
  (ab_ck h (some this) (8, 0)).bind fun a4 =>
  bnd (f_X8_runAt a4 p0 h) fun x1 h2 =>
  if ¬ x1 = none then
    (getI h2 x1 4 7).bind fun x7 =>
    if x7 = 0 then
      (getD h2 x1 4 4).bind fun x9 =>
      (ab_ck h2 (some this) (8, 0)).bind fun a13 =>
      bnd (f_X8_advance a13 x1 x9 0 FP.dconst0 h2) fun x10 h11 =>
      some (x10, h11)
    else
      some ((-2), h2)
  else
    some ((-1), h2)
theorem mi_X8_step : ab_MI yX8_step cX8_step 3 (some .int) 1 := ⟨lc_yX8_step, lz_RX8, by decide, by decide, by decide +kernel⟩
set_option maxHeartbeats 4000000 in
set_option maxRecDepth 100000 in
theorem c_X8_step (l : Launch) (D : va_G) (cA : Nat → ClassId) (sz : Nat) {this : Nat} {p0 : Int32} {h hh : Hp} {rr : Int32} (hF : f_X8_step this p0 h = some (rr, hh)) : ab_C l D cA sz yX8_step cX8_step 3 (some .int) 7 0 0 [.ref this, .int p0] h (some (.int rr)) hh := by
  refine Met.ofW (cc := cX8_step) (maxL := 3) (ret := (some .int)) (by decide) rfl ?_
  intro p e s m args below meth c s₁ B hml hv
  obtain ⟨rfl, hT, hR⟩ := hv
  have X : ab_X p s m _ meth c cX8_step 3 RX8 D cA sz := (ab_enter B hml hT hR).1
  have S := (ab_enter B hml hT hR).2
  have hr := B.returns
  obtain ⟨ls, hls, hl⟩ := ab_entry m [.ref this, .int p0] 3 (lv := [(0, .ref this), (1, .int p0)]) (by simp [lg_sl, ab_cat, ab_cI, ab_cJ, ab_cD, ab_cF, ab_cA]) (by simp [lv_args, ab_cat, ab_cI, ab_cJ, ab_cD, ab_cF, ab_cA])
  rw [hls]
  have hl : lv_has ls 3 [(0, va_rf (some this)), (1, .int p0)] := hl
  unfold f_X8_step at hF
  show W p l e (ab_rm 7 0 0) s m _ below meth c s.heap [] 0 0 _ _
  refine ab_aload_n X dX8_step_0 rfl (lv_at hl 0 rfl) ?_
  refine lv_iload_n X.1 X.2.1 dX8_step_1 rfl (lv_at hl 1 rfl) ?_
  obtain ⟨a4, e5, hF⟩ := bind_out hF
  obtain ⟨x1, h2, e3, hF⟩ := bnd_out hF
  refine ab_callVa X S e5 (c_X8_runAt l D cA sz e3) rfl (by decide) mi_X8_runAt lm_X8_119 li_yX8_runAt ls_yX8_runAt (As := [.int p0]) (rest := []) rfl ⟨by decide, by decide⟩ ⟨by decide, by decide⟩ hl.1 rfl (by simp [ab_cat, ab_cI, ab_cJ, ab_cD, ab_cF]) dX8_step_2 (fun H1 locs1 S => ?_)
  refine ab_astore_n (i := 2) (lv' := [(2, va_rf x1), (0, va_rf (some this)), (1, .int p0)]) X dX8_step_5 rfl hl (by decide) (by simp [ab_cat, ab_cI, ab_cJ, ab_cD, ab_cF]) (fun ls hl => ?_)
  refine ab_aload_n X dX8_step_6 rfl (lv_at hl 0 rfl) ?_
  refine ab_ifnonnull (tgt := 12) X dX8_step_7 (by decide) (fun c6 => ?_) (fun c6 => ?_)
  · have hF := ab_pos c6 hF
    refine ab_aload_n X dX8_step_12 rfl (lv_at hl 0 rfl) ?_
    refine ab_getI X S hF fi_4_7 lf_X8_123 dX8_step_13 (fun x7 hF => ?_)
    refine lv_if_eq (tgt := 22) X.1 X.2.1 dX8_step_16 (by decide) (fun c8 => ?_) (fun c8 => ?_)
    · have hF := ab_pos c8 hF
      refine ab_aload_n X dX8_step_22 rfl (lv_at hl 1 rfl) ?_
      refine ab_aload_n X dX8_step_23 rfl (lv_at hl 0 rfl) ?_
      refine ab_aload_n X dX8_step_24 rfl (lv_at hl 0 rfl) ?_
      refine ab_getD X S hF fi_4_4 lf_X8_156 dX8_step_25 (fun x9 hF => ?_)
      refine lv_iconst (v := 0) X.1 X.2.1 dX8_step_28 (by decide) ?_
      refine lv_dconst0 X.1 X.2.1 dX8_step_29 ?_
      obtain ⟨a13, e14, hF⟩ := bind_out hF
      obtain ⟨x10, h11, e12, hF⟩ := bnd_out hF
      refine ab_callVi X S e14 (c_X8_advance l D cA sz e12) rfl (by decide) mi_X8_advance lm_X8_175 li_yX8_advance ls_yX8_advance (As := [va_rf x1, .double x9, .int 0, .double FP.dconst0]) (rest := []) rfl ⟨by decide, by decide⟩ ⟨by decide, by decide⟩ hl.1 rfl (by simp [ab_cat, ab_cI, ab_cJ, ab_cD, ab_cF]) dX8_step_30 (fun H1 locs1 S => ?_)
      exact ab_iret X S hr hF dX8_step_33
    · have hF := ab_neg c8 hF
      refine lv_bipush (v := (-2)) X.1 X.2.1 dX8_step_19 (by decide) ?_
      exact ab_iret X S hr hF dX8_step_21
  · have hF := ab_neg c6 hF
    refine lv_iconst (v := (-1)) X.1 X.2.1 dX8_step_10 (by decide) ?_
    exact ab_iret X S hr hF dX8_step_11
