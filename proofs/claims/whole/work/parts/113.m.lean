def f_X8_set_32   (h : Hp) : Option (Int32 × Hp) :=
  some ((-1), h)
set_option maxHeartbeats 4000000 in
set_option maxRecDepth 100000 in
theorem w_X8_set_32 {p : Program} {l : Launch} {e : Env} {s : State} {m : MethodId} {args : Array Value} {below : List Frame} {meth : Method} {c : Code} {D : va_G} {cA : Nat → ClassId} {sz : Nat} {rr : Int32} {hh : Hp}  (X : ab_X p s m args meth c cX8_set 7 RX8 D cA sz) (hr : meth.sig.returnType = (some .int))  {H : Heap} {locs : List Loc} {ls : Array Slot}  {h : Hp} (S : ab_H D cA sz h s H locs) (hl : lv_has ls 7 []) (hF : f_X8_set_32  h = some (rr, hh)) : W p l e (ab_rm 1 0 0) s m args below meth c H locs 0 0 (MQ below (ab_Q D cA sz (some (.int rr)) hh) args s 0 0 (fun q => sz ≤ q)) (F0 m 32 ls []) := by
  unfold f_X8_set_32 at hF
  refine lv_iconst (v := (-1)) X.1 X.2.1 dX8_set_32 (by decide) ?_
  exact ab_iret X S hr hF dX8_set_33
def f_X8_set (this : Nat) (p0 : Int32) (p1 : Int32) (p2 : Int64) (p3 : Int32) (h : Hp) : Option (Int32 × Hp) :=
  (ab_ck h (some this) (8, 0)).bind fun a4 =>
  bnd (f_X8_runAt a4 p0 h) fun x1 h2 =>
  if x1 = none then
    f_X8_set_32 h2
  else
    (getR h2 x1 4 0).bind fun x7 =>
    (ab_ck h2 x7 (1, 0)).bind fun a11 =>
    bnd (f_X1_hasVariable a11 p1 h2) fun x8 h9 =>
    if x8 = 0 then
      f_X8_set_32 h9
    else
      bnd (f_X8_isK p3 h9) fun x14 h15 =>
      if ¬ x14 = 0 then
        (getI h15 x1 4 7).bind fun x18 =>
        if x18 = 0 then
          (getR h15 x1 4 2).bind fun x20 =>
          bnd (f_X8_quotient p2 p3 h15) fun x21 h22 =>
          (getR h22 x1 4 0).bind fun x24 =>
          (ab_ck h22 x24 (1, 0)).bind fun a28 =>
          bnd (f_X1_isNarrow a28 p1 h22) fun x25 h26 =>
          (ab_ck h26 x20 (3, 0)).bind fun a33 =>
          bnd (f_X3_put a33 p1 x21 0 x25 h26) fun _ h31 =>
          some (1, h31)
        else
          some ((-2), h15)
      else
        f_X8_set_32 h15
theorem mi_X8_set : ab_MI yX8_set cX8_set 7 (some .int) 4 := ⟨lc_yX8_set, lz_RX8, by decide, by decide, by decide +kernel⟩
set_option maxHeartbeats 4000000 in
set_option maxRecDepth 100000 in
theorem c_X8_set (l : Launch) (D : va_G) (cA : Nat → ClassId) (sz : Nat) {this : Nat} {p0 : Int32} {p1 : Int32} {p2 : Int64} {p3 : Int32} {h hh : Hp} {rr : Int32} (hF : f_X8_set this p0 p1 p2 p3 h = some (rr, hh)) : ab_C l D cA sz yX8_set cX8_set 7 (some .int) 1 0 0 [.ref this, .int p0, .int p1, .long p2, .int p3] h (some (.int rr)) hh := by
  refine Met.ofW (cc := cX8_set) (maxL := 7) (ret := (some .int)) (by decide) rfl ?_
  intro p e s m args below meth c s₁ B hml hv
  obtain ⟨rfl, hT, hR⟩ := hv
  have X : ab_X p s m _ meth c cX8_set 7 RX8 D cA sz := (ab_enter B hml hT hR).1
  have S := (ab_enter B hml hT hR).2
  have hr := B.returns
  obtain ⟨ls, hls, hl⟩ := ab_entry m [.ref this, .int p0, .int p1, .long p2, .int p3] 7 (lv := [(0, .ref this), (1, .int p0), (2, .int p1), (3, .long p2), (5, .int p3)]) (by simp [lg_sl, ab_cat, ab_cI, ab_cJ, ab_cD, ab_cF, ab_cA]) (by simp [lv_args, ab_cat, ab_cI, ab_cJ, ab_cD, ab_cF, ab_cA])
  rw [hls]
  have hl : lv_has ls 7 [(0, va_rf (some this)), (1, .int p0), (2, .int p1), (3, .long p2), (5, .int p3)] := hl
  unfold f_X8_set at hF
  show W p l e (ab_rm 1 0 0) s m _ below meth c s.heap [] 0 0 _ _
  refine ab_aload_n X dX8_set_0 rfl (lv_at hl 0 rfl) ?_
  refine lv_iload_n X.1 X.2.1 dX8_set_1 rfl (lv_at hl 1 rfl) ?_
  obtain ⟨a4, e5, hF⟩ := bind_out hF
  obtain ⟨x1, h2, e3, hF⟩ := bnd_out hF
  refine ab_callVa X S e5 (c_X8_runAt l D cA sz e3) rfl (by decide) mi_X8_runAt lm_X8_119 li_yX8_runAt ls_yX8_runAt (As := [.int p0]) (rest := []) rfl ⟨by decide, by decide⟩ ⟨by decide, by decide⟩ hl.1 rfl (by simp [ab_cat, ab_cI, ab_cJ, ab_cD, ab_cF]) dX8_set_2 (fun H1 locs1 S => ?_)
  refine ab_astore (lv' := [(6, va_rf x1), (0, va_rf (some this)), (1, .int p0), (2, .int p1), (3, .long p2), (5, .int p3)]) X dX8_set_5 hl (by decide) (by simp [ab_cat, ab_cI, ab_cJ, ab_cD, ab_cF]) (fun ls hl => ?_)
  refine ab_aload X dX8_set_7 (lv_at hl 0 rfl) ?_
  refine ab_ifnull (tgt := 32) X dX8_set_9 (by decide) (fun c6 => ?_) (fun c6 => ?_)
  · have hF := ab_pos c6 hF
    exact w_X8_set_32 X hr  S (lv_sub hl [] rfl) hF
  · have hF := ab_neg c6 hF
    refine ab_aload X dX8_set_12 (lv_at hl 0 rfl) ?_
    refine ab_getR X S hF fi_4_0 lf_X8_92 dX8_set_14 (fun x7 hF => ?_)
    refine lv_iload_n X.1 X.2.1 dX8_set_17 rfl (lv_at hl 3 rfl) ?_
    obtain ⟨a11, e12, hF⟩ := bind_out hF
    obtain ⟨x8, h9, e10, hF⟩ := bnd_out hF
    refine ab_callVi X S e12 (c_X1_hasVariable l D cA sz e10) rfl (by decide) mi_X1_hasVariable lm_X8_83 li_yX1_hasVariable ls_yX1_hasVariable (As := [.int p1]) (rest := []) rfl ⟨by decide, by decide⟩ ⟨by decide, by decide⟩ hl.1 rfl (by simp [ab_cat, ab_cI, ab_cJ, ab_cD, ab_cF]) dX8_set_18 (fun H1 locs1 S => ?_)
    refine lv_if_eq (tgt := 32) X.1 X.2.1 dX8_set_21 (by decide) (fun c13 => ?_) (fun c13 => ?_)
    · have hF := ab_pos c13 hF
      exact w_X8_set_32 X hr  S (lv_sub hl [] rfl) hF
    · have hF := ab_neg c13 hF
      refine lv_iload X.1 X.2.1 dX8_set_24 (lv_at hl 5 rfl) ?_
      obtain ⟨x14, h15, e16, hF⟩ := bnd_out hF
      refine ab_callSi X S (c_X8_isK l D cA sz e16) mi_X8_isK lm_X8_67 lt_yX8_isK (As := [.int p3]) (rest := []) rfl ⟨by decide, by decide⟩ ⟨by decide, by decide⟩ hl.1 rfl (by simp [ab_cat, ab_cI, ab_cJ, ab_cD, ab_cF]) dX8_set_26 (fun H1 locs1 S => ?_)
      refine lv_if_ne (tgt := 34) X.1 X.2.1 dX8_set_29 (by decide) (fun c17 => ?_) (fun c17 => ?_)
      · have hF := ab_pos c17 hF
        refine ab_aload X dX8_set_34 (lv_at hl 0 rfl) ?_
        refine ab_getI X S hF fi_4_7 lf_X8_123 dX8_set_36 (fun x18 hF => ?_)
        refine lv_if_eq (tgt := 45) X.1 X.2.1 dX8_set_39 (by decide) (fun c19 => ?_) (fun c19 => ?_)
        · have hF := ab_pos c19 hF
          refine ab_aload X dX8_set_45 (lv_at hl 0 rfl) ?_
          refine ab_getR X S hF fi_4_2 lf_X8_127 dX8_set_47 (fun x20 hF => ?_)
          refine lv_iload_n X.1 X.2.1 dX8_set_50 rfl (lv_at hl 3 rfl) ?_
          refine lv_lload_n X.1 X.2.1 dX8_set_51 rfl (lv_at hl 4 rfl) ?_
          refine lv_iload X.1 X.2.1 dX8_set_52 (lv_at hl 5 rfl) ?_
          obtain ⟨x21, h22, e23, hF⟩ := bnd_out hF
          refine ab_callSd X S (c_X8_quotient l D cA sz e23) mi_X8_quotient lm_X8_71 lt_yX8_quotient (As := [.long p2, .int p3]) (rest := [.int p1, va_rf x20]) rfl ⟨by decide, by decide⟩ ⟨by decide, by decide⟩ hl.1 rfl (by simp [ab_cat, ab_cI, ab_cJ, ab_cD, ab_cF]) dX8_set_54 (fun H1 locs1 S => ?_)
          refine lv_iconst (v := 0) X.1 X.2.1 dX8_set_57 (by decide) ?_
          refine ab_aload X dX8_set_58 (lv_at hl 0 rfl) ?_
          refine ab_getR X S hF fi_4_0 lf_X8_92 dX8_set_60 (fun x24 hF => ?_)
          refine lv_iload_n X.1 X.2.1 dX8_set_63 rfl (lv_at hl 3 rfl) ?_
          obtain ⟨a28, e29, hF⟩ := bind_out hF
          obtain ⟨x25, h26, e27, hF⟩ := bnd_out hF
          refine ab_callVi X S e29 (c_X1_isNarrow l D cA sz e27) rfl (by decide) mi_X1_isNarrow lm_X8_131 li_yX1_isNarrow ls_yX1_isNarrow (As := [.int p1]) (rest := [.int 0, .double x21, .int p1, va_rf x20]) rfl ⟨by decide, by decide⟩ ⟨by decide, by decide⟩ hl.1 rfl (by simp [ab_cat, ab_cI, ab_cJ, ab_cD, ab_cF]) dX8_set_64 (fun H1 locs1 S => ?_)
          obtain ⟨a33, e34, hF⟩ := bind_out hF
          obtain ⟨x30, h31, e32, hF⟩ := bnd_out hF
          refine ab_callVv X S e34 (c_X3_put l D cA sz e32) rfl (by decide) mi_X3_put lm_X8_134 li_yX3_put ls_yX3_put (As := [.int p1, .double x21, .int 0, .int x25]) (rest := []) rfl ⟨by decide, by decide⟩ ⟨by decide, by decide⟩ hl.1 rfl (by simp [ab_cat, ab_cI, ab_cJ, ab_cD, ab_cF]) dX8_set_67 (fun H1 locs1 S => ?_)
          refine lv_iconst (v := 1) X.1 X.2.1 dX8_set_70 (by decide) ?_
          exact ab_iret X S hr hF dX8_set_71
        · have hF := ab_neg c19 hF
          refine lv_bipush (v := (-2)) X.1 X.2.1 dX8_set_42 (by decide) ?_
          exact ab_iret X S hr hF dX8_set_44
      · have hF := ab_neg (fun q => q c17) hF
        exact w_X8_set_32 X hr  S (lv_sub hl [] rfl) hF
def f_X8_method_20   (h : Hp) : Option (Int32 × Hp) :=
  some ((-1), h)
set_option maxHeartbeats 4000000 in
set_option maxRecDepth 100000 in
theorem w_X8_method_20 {p : Program} {l : Launch} {e : Env} {s : State} {m : MethodId} {args : Array Value} {below : List Frame} {meth : Method} {c : Code} {D : va_G} {cA : Nat → ClassId} {sz : Nat} {rr : Int32} {hh : Hp}  (X : ab_X p s m args meth c cX8_method 4 RX8 D cA sz) (hr : meth.sig.returnType = (some .int))  {H : Heap} {locs : List Loc} {ls : Array Slot}  {h : Hp} (S : ab_H D cA sz h s H locs) (hl : lv_has ls 4 []) (hF : f_X8_method_20  h = some (rr, hh)) : W p l e (ab_rm 1 0 0) s m args below meth c H locs 0 0 (MQ below (ab_Q D cA sz (some (.int rr)) hh) args s 0 0 (fun q => sz ≤ q)) (F0 m 20 ls []) := by
  unfold f_X8_method_20 at hF
  refine lv_iconst (v := (-1)) X.1 X.2.1 dX8_method_20 (by decide) ?_
  exact ab_iret X S hr hF dX8_method_21
def f_X8_method_44  (v2 : Int32) (v3 : Option Nat) (h : Hp) : Option (Int32 × Hp) :=
  (putI h v3 4 3 v2).bind fun h1 =>
  some (1, h1)
set_option maxHeartbeats 4000000 in
set_option maxRecDepth 100000 in
theorem w_X8_method_44 {p : Program} {l : Launch} {e : Env} {s : State} {m : MethodId} {args : Array Value} {below : List Frame} {meth : Method} {c : Code} {D : va_G} {cA : Nat → ClassId} {sz : Nat} {rr : Int32} {hh : Hp}  (X : ab_X p s m args meth c cX8_method 4 RX8 D cA sz) (hr : meth.sig.returnType = (some .int))  {H : Heap} {locs : List Loc} {ls : Array Slot} {v2 : Int32} {v3 : Option Nat} {h : Hp} (S : ab_H D cA sz h s H locs) (hl : lv_has ls 4 [(2, .int v2), (3, va_rf v3)]) (hF : f_X8_method_44 v2 v3 h = some (rr, hh)) : W p l e (ab_rm 1 0 0) s m args below meth c H locs 0 0 (MQ below (ab_Q D cA sz (some (.int rr)) hh) args s 0 0 (fun q => sz ≤ q)) (F0 m 44 ls []) := by
  unfold f_X8_method_44 at hF
  refine ab_aload_n X dX8_method_44 rfl (lv_at hl 1 rfl) ?_
  refine lv_iload_n X.1 X.2.1 dX8_method_45 rfl (lv_at hl 0 rfl) ?_
  refine ab_putI X S hF fi_4_3 ci_4 (Or.inl rfl) rfl lf_X8_143 dX8_method_46 (fun h1 H1 locs1 hF S => ?_)
  refine lv_iconst (v := 1) X.1 X.2.1 dX8_method_49 (by decide) ?_
  exact ab_iret X S hr hF dX8_method_50
def f_X8_method (this : Nat) (p0 : Int32) (p1 : Int32) (h : Hp) : Option (Int32 × Hp) :=
  (ab_ck h (some this) (8, 0)).bind fun a4 =>
  bnd (f_X8_runAt a4 p0 h) fun x1 h2 =>
  if x1 = none then
    f_X8_method_20 h2
  else
    if p1 < 0 then
      f_X8_method_20 h2
    else
      if p1 ≤ 6 then
        if ¬ p1 = 6 then
          f_X8_method_44 p1 x1 h2
        else
          (getR h2 x1 4 0).bind fun x10 =>
          (getI h2 x10 1 1).bind fun x11 =>
          if ¬ (x11 &&& 1) = 1 then
            f_X8_method_44 p1 x1 h2
          else
            some ((-2), h2)
      else
        f_X8_method_20 h2
theorem mi_X8_method : ab_MI yX8_method cX8_method 4 (some .int) 2 := ⟨lc_yX8_method, lz_RX8, by decide, by decide, by decide +kernel⟩
set_option maxHeartbeats 4000000 in
set_option maxRecDepth 100000 in
theorem c_X8_method (l : Launch) (D : va_G) (cA : Nat → ClassId) (sz : Nat) {this : Nat} {p0 : Int32} {p1 : Int32} {h hh : Hp} {rr : Int32} (hF : f_X8_method this p0 p1 h = some (rr, hh)) : ab_C l D cA sz yX8_method cX8_method 4 (some .int) 1 0 0 [.ref this, .int p0, .int p1] h (some (.int rr)) hh := by
  refine Met.ofW (cc := cX8_method) (maxL := 4) (ret := (some .int)) (by decide) rfl ?_
  intro p e s m args below meth c s₁ B hml hv
  obtain ⟨rfl, hT, hR⟩ := hv
  have X : ab_X p s m _ meth c cX8_method 4 RX8 D cA sz := (ab_enter B hml hT hR).1
  have S := (ab_enter B hml hT hR).2
  have hr := B.returns
  obtain ⟨ls, hls, hl⟩ := ab_entry m [.ref this, .int p0, .int p1] 4 (lv := [(0, .ref this), (1, .int p0), (2, .int p1)]) (by simp [lg_sl, ab_cat, ab_cI, ab_cJ, ab_cD, ab_cF, ab_cA]) (by simp [lv_args, ab_cat, ab_cI, ab_cJ, ab_cD, ab_cF, ab_cA])
  rw [hls]
  have hl : lv_has ls 4 [(0, va_rf (some this)), (1, .int p0), (2, .int p1)] := hl
  unfold f_X8_method at hF
  show W p l e (ab_rm 1 0 0) s m _ below meth c s.heap [] 0 0 _ _
  refine ab_aload_n X dX8_method_0 rfl (lv_at hl 0 rfl) ?_
  refine lv_iload_n X.1 X.2.1 dX8_method_1 rfl (lv_at hl 1 rfl) ?_
  obtain ⟨a4, e5, hF⟩ := bind_out hF
  obtain ⟨x1, h2, e3, hF⟩ := bnd_out hF
  refine ab_callVa X S e5 (c_X8_runAt l D cA sz e3) rfl (by decide) mi_X8_runAt lm_X8_119 li_yX8_runAt ls_yX8_runAt (As := [.int p0]) (rest := []) rfl ⟨by decide, by decide⟩ ⟨by decide, by decide⟩ hl.1 rfl (by simp [ab_cat, ab_cI, ab_cJ, ab_cD, ab_cF]) dX8_method_2 (fun H1 locs1 S => ?_)
  refine ab_astore_n (i := 3) (lv' := [(3, va_rf x1), (0, va_rf (some this)), (1, .int p0), (2, .int p1)]) X dX8_method_5 rfl hl (by decide) (by simp [ab_cat, ab_cI, ab_cJ, ab_cD, ab_cF]) (fun ls hl => ?_)
  refine ab_aload_n X dX8_method_6 rfl (lv_at hl 0 rfl) ?_
  refine ab_ifnull (tgt := 20) X dX8_method_7 (by decide) (fun c6 => ?_) (fun c6 => ?_)
  · have hF := ab_pos c6 hF
    exact w_X8_method_20 X hr  S (lv_sub hl [] rfl) hF
  · have hF := ab_neg c6 hF
    refine lv_iload_n X.1 X.2.1 dX8_method_10 rfl (lv_at hl 3 rfl) ?_
    refine lv_if_lt (tgt := 20) X.1 X.2.1 dX8_method_11 (by decide) (fun c7 => ?_) (fun c7 => ?_)
    · have hF := ab_pos c7 hF
      exact w_X8_method_20 X hr  S (lv_sub hl [] rfl) hF
    · have hF := ab_neg c7 hF
      refine lv_iload_n X.1 X.2.1 dX8_method_14 rfl (lv_at hl 3 rfl) ?_
      refine lv_bipush (v := 6) X.1 X.2.1 dX8_method_15 (by decide) ?_
      refine lv_icmp_le (tgt := 22) X.1 X.2.1 dX8_method_17 (by decide) (fun c8 => ?_) (fun c8 => ?_)
      · have hF := ab_pos c8 hF
        refine lv_iload_n X.1 X.2.1 dX8_method_22 rfl (lv_at hl 3 rfl) ?_
        refine lv_bipush (v := 6) X.1 X.2.1 dX8_method_23 (by decide) ?_
        refine lv_icmp_ne (tgt := 44) X.1 X.2.1 dX8_method_25 (by decide) (fun c9 => ?_) (fun c9 => ?_)
        · have hF := ab_pos c9 hF
          exact w_X8_method_44 X hr  S (lv_sub hl [3, 0] rfl) hF
        · have hF := ab_neg (fun q => q c9) hF
          refine ab_aload_n X dX8_method_28 rfl (lv_at hl 0 rfl) ?_
          refine ab_getR X S hF fi_4_0 lf_X8_92 dX8_method_29 (fun x10 hF => ?_)
          refine ab_getI X S hF fi_1_1 lf_X8_140 dX8_method_32 (fun x11 hF => ?_)
          refine lv_iconst (v := 1) X.1 X.2.1 dX8_method_35 (by decide) ?_
          refine lv_iand X.1 X.2.1 dX8_method_36 ?_
          refine lv_iconst (v := 1) X.1 X.2.1 dX8_method_37 (by decide) ?_
          refine lv_icmp_ne (tgt := 44) X.1 X.2.1 dX8_method_38 (by decide) (fun c12 => ?_) (fun c12 => ?_)
          · have hF := ab_pos c12 hF
            exact w_X8_method_44 X hr  S (lv_sub hl [3, 0] rfl) hF
          · have hF := ab_neg (fun q => q c12) hF
            refine lv_bipush (v := (-2)) X.1 X.2.1 dX8_method_41 (by decide) ?_
            exact ab_iret X S hr hF dX8_method_43
      · have hF := ab_neg c8 hF
        exact w_X8_method_20 X hr  S (lv_sub hl [] rfl) hF
def f_X8_length_20   (h : Hp) : Option (Int32 × Hp) :=
  some ((-1), h)
set_option maxHeartbeats 4000000 in
set_option maxRecDepth 100000 in
theorem w_X8_length_20 {p : Program} {l : Launch} {e : Env} {s : State} {m : MethodId} {args : Array Value} {below : List Frame} {meth : Method} {c : Code} {D : va_G} {cA : Nat → ClassId} {sz : Nat} {rr : Int32} {hh : Hp}  (X : ab_X p s m args meth c cX8_length 10 RX8 D cA sz) (hr : meth.sig.returnType = (some .int))  {H : Heap} {locs : List Loc} {ls : Array Slot}  {h : Hp} (S : ab_H D cA sz h s H locs) (hl : lv_has ls 10 []) (hF : f_X8_length_20  h = some (rr, hh)) : W p l e (ab_rm 1 0 0) s m args below meth c H locs 0 0 (MQ below (ab_Q D cA sz (some (.int rr)) hh) args s 0 0 (fun q => sz ≤ q)) (F0 m 20 ls []) := by
  unfold f_X8_length_20 at hF
  refine lv_iconst (v := (-1)) X.1 X.2.1 dX8_length_20 (by decide) ?_
  exact ab_iret X S hr hF dX8_length_21
def f_X8_length_54   (h : Hp) : Option (Int32 × Hp) :=
  some ((-1), h)
set_option maxHeartbeats 4000000 in
set_option maxRecDepth 100000 in
theorem w_X8_length_54 {p : Program} {l : Launch} {e : Env} {s : State} {m : MethodId} {args : Array Value} {below : List Frame} {meth : Method} {c : Code} {D : va_G} {cA : Nat → ClassId} {sz : Nat} {rr : Int32} {hh : Hp}  (X : ab_X p s m args meth c cX8_length 10 RX8 D cA sz) (hr : meth.sig.returnType = (some .int))  {H : Heap} {locs : List Loc} {ls : Array Slot}  {h : Hp} (S : ab_H D cA sz h s H locs) (hl : lv_has ls 10 []) (hF : f_X8_length_54  h = some (rr, hh)) : W p l e (ab_rm 1 0 0) s m args below meth c H locs 0 0 (MQ below (ab_Q D cA sz (some (.int rr)) hh) args s 0 0 (fun q => sz ≤ q)) (F0 m 54 ls []) := by
  unfold f_X8_length_54 at hF
  refine lv_iconst (v := (-1)) X.1 X.2.1 dX8_length_54 (by decide) ?_
  exact ab_iret X S hr hF dX8_length_55
def f_X8_length (this : Nat) (p0 : Int32) (p1 : Int64) (p2 : Int32) (h : Hp) : Option (Int32 × Hp) :=
  (ab_ck h (some this) (8, 0)).bind fun a4 =>
  bnd (f_X8_runAt a4 p0 h) fun x1 h2 =>
  if x1 = none then
    f_X8_length_20 h2
  else
    bnd (f_X8_isK p2 h2) fun x7 h8 =>
    if ¬ x7 = 0 then
      bnd (f_X8_quotient p1 p2 h8) fun x11 h12 =>
      bnd (f_X8_size x11 h12) fun x14 h15 =>
      if 0 < (Op.cmpValue (FP.dcmp x14 4652218415073722368) CmpOp.l) then
        f_X8_length_54 h15
      else
        bnd (f_X8_isTooSmall x14 h15) fun x18 h19 =>
        if x18 = 0 then
          (putD h19 x1 4 4 x11).bind fun h22 =>
          some (1, h22)
        else
          f_X8_length_54 h19
    else
      f_X8_length_20 h8
theorem mi_X8_length : ab_MI yX8_length cX8_length 10 (some .int) 3 := ⟨lc_yX8_length, lz_RX8, by decide, by decide, by decide +kernel⟩
set_option maxHeartbeats 4000000 in
set_option maxRecDepth 100000 in
theorem c_X8_length (l : Launch) (D : va_G) (cA : Nat → ClassId) (sz : Nat) {this : Nat} {p0 : Int32} {p1 : Int64} {p2 : Int32} {h hh : Hp} {rr : Int32} (hF : f_X8_length this p0 p1 p2 h = some (rr, hh)) : ab_C l D cA sz yX8_length cX8_length 10 (some .int) 1 0 0 [.ref this, .int p0, .long p1, .int p2] h (some (.int rr)) hh := by
  refine Met.ofW (cc := cX8_length) (maxL := 10) (ret := (some .int)) (by decide) rfl ?_
  intro p e s m args below meth c s₁ B hml hv
  obtain ⟨rfl, hT, hR⟩ := hv
  have X : ab_X p s m _ meth c cX8_length 10 RX8 D cA sz := (ab_enter B hml hT hR).1
  have S := (ab_enter B hml hT hR).2
  have hr := B.returns
  obtain ⟨ls, hls, hl⟩ := ab_entry m [.ref this, .int p0, .long p1, .int p2] 10 (lv := [(0, .ref this), (1, .int p0), (2, .long p1), (4, .int p2)]) (by simp [lg_sl, ab_cat, ab_cI, ab_cJ, ab_cD, ab_cF, ab_cA]) (by simp [lv_args, ab_cat, ab_cI, ab_cJ, ab_cD, ab_cF, ab_cA])
  rw [hls]
  have hl : lv_has ls 10 [(0, va_rf (some this)), (1, .int p0), (2, .long p1), (4, .int p2)] := hl
  unfold f_X8_length at hF
  show W p l e (ab_rm 1 0 0) s m _ below meth c s.heap [] 0 0 _ _
  refine ab_aload_n X dX8_length_0 rfl (lv_at hl 0 rfl) ?_
  refine lv_iload_n X.1 X.2.1 dX8_length_1 rfl (lv_at hl 1 rfl) ?_
  obtain ⟨a4, e5, hF⟩ := bind_out hF
  obtain ⟨x1, h2, e3, hF⟩ := bnd_out hF
  refine ab_callVa X S e5 (c_X8_runAt l D cA sz e3) rfl (by decide) mi_X8_runAt lm_X8_119 li_yX8_runAt ls_yX8_runAt (As := [.int p0]) (rest := []) rfl ⟨by decide, by decide⟩ ⟨by decide, by decide⟩ hl.1 rfl (by simp [ab_cat, ab_cI, ab_cJ, ab_cD, ab_cF]) dX8_length_2 (fun H1 locs1 S => ?_)
  refine ab_astore (lv' := [(5, va_rf x1), (0, va_rf (some this)), (1, .int p0), (2, .long p1), (4, .int p2)]) X dX8_length_5 hl (by decide) (by simp [ab_cat, ab_cI, ab_cJ, ab_cD, ab_cF]) (fun ls hl => ?_)
  refine ab_aload X dX8_length_7 (lv_at hl 0 rfl) ?_
  refine ab_ifnull (tgt := 20) X dX8_length_9 (by decide) (fun c6 => ?_) (fun c6 => ?_)
  · have hF := ab_pos c6 hF
    exact w_X8_length_20 X hr  S (lv_sub hl [] rfl) hF
  · have hF := ab_neg c6 hF
    refine lv_iload X.1 X.2.1 dX8_length_12 (lv_at hl 4 rfl) ?_
    obtain ⟨x7, h8, e9, hF⟩ := bnd_out hF
    refine ab_callSi X S (c_X8_isK l D cA sz e9) mi_X8_isK lm_X8_67 lt_yX8_isK (As := [.int p2]) (rest := []) rfl ⟨by decide, by decide⟩ ⟨by decide, by decide⟩ hl.1 rfl (by simp [ab_cat, ab_cI, ab_cJ, ab_cD, ab_cF]) dX8_length_14 (fun H1 locs1 S => ?_)
    refine lv_if_ne (tgt := 22) X.1 X.2.1 dX8_length_17 (by decide) (fun c10 => ?_) (fun c10 => ?_)
    · have hF := ab_pos c10 hF
      refine lv_lload_n X.1 X.2.1 dX8_length_22 rfl (lv_at hl 3 rfl) ?_
      refine lv_iload X.1 X.2.1 dX8_length_23 (lv_at hl 4 rfl) ?_
      obtain ⟨x11, h12, e13, hF⟩ := bnd_out hF
      refine ab_callSd X S (c_X8_quotient l D cA sz e13) mi_X8_quotient lm_X8_71 lt_yX8_quotient (As := [.long p1, .int p2]) (rest := []) rfl ⟨by decide, by decide⟩ ⟨by decide, by decide⟩ hl.1 rfl (by simp [ab_cat, ab_cI, ab_cJ, ab_cD, ab_cF]) dX8_length_25 (fun H1 locs1 S => ?_)
      refine lv_dstore (lv' := [(6, .double x11), (5, va_rf x1), (0, va_rf (some this)), (1, .int p0), (2, .long p1), (4, .int p2)]) X.1 X.2.1 dX8_length_28 hl (by decide) (by simp [ab_cat, ab_cI, ab_cJ, ab_cD, ab_cF]) (fun ls hl => ?_)
      refine lv_dload X.1 X.2.1 dX8_length_30 (lv_at hl 0 rfl) ?_
      obtain ⟨x14, h15, e16, hF⟩ := bnd_out hF
      refine ab_callSd X S (c_X8_size l D cA sz e16) mi_X8_size lm_X8_146 lt_yX8_size (As := [.double x11]) (rest := []) rfl ⟨by decide, by decide⟩ ⟨by decide, by decide⟩ hl.1 rfl (by simp [ab_cat, ab_cI, ab_cJ, ab_cD, ab_cF]) dX8_length_32 (fun H1 locs1 S => ?_)
      refine lv_dstore (lv' := [(8, .double x14), (6, .double x11), (5, va_rf x1), (0, va_rf (some this)), (1, .int p0), (2, .long p1), (4, .int p2)]) X.1 X.2.1 dX8_length_35 hl (by decide) (by simp [ab_cat, ab_cI, ab_cJ, ab_cD, ab_cF]) (fun ls hl => ?_)
      refine lv_dload X.1 X.2.1 dX8_length_37 (lv_at hl 0 rfl) ?_
      refine lv_ldc2d (v := 4652218415073722368) X.1 X.2.1 X.2.2.2.1 (X.2.2.2.2.1 _ ld_X8_150) dX8_length_39 ?_
      refine lv_dcmp X.1 X.2.1 dX8_length_42 ?_
      refine lv_if_gt (tgt := 54) X.1 X.2.1 dX8_length_43 (by decide) (fun c17 => ?_) (fun c17 => ?_)
      · have hF := ab_pos c17 hF
        exact w_X8_length_54 X hr  S (lv_sub hl [] rfl) hF
      · have hF := ab_neg c17 hF
        refine lv_dload X.1 X.2.1 dX8_length_46 (lv_at hl 0 rfl) ?_
        obtain ⟨x18, h19, e20, hF⟩ := bnd_out hF
        refine ab_callSi X S (c_X8_isTooSmall l D cA sz e20) mi_X8_isTooSmall lm_X8_152 lt_yX8_isTooSmall (As := [.double x14]) (rest := []) rfl ⟨by decide, by decide⟩ ⟨by decide, by decide⟩ hl.1 rfl (by simp [ab_cat, ab_cI, ab_cJ, ab_cD, ab_cF]) dX8_length_48 (fun H1 locs1 S => ?_)
        refine lv_if_eq (tgt := 56) X.1 X.2.1 dX8_length_51 (by decide) (fun c21 => ?_) (fun c21 => ?_)
        · have hF := ab_pos c21 hF
          refine ab_aload X dX8_length_56 (lv_at hl 2 rfl) ?_
          refine lv_dload X.1 X.2.1 dX8_length_58 (lv_at hl 1 rfl) ?_
          refine ab_putD X S hF fi_4_4 ci_4 (Or.inl rfl) rfl lf_X8_156 dX8_length_60 (fun h22 H1 locs1 hF S => ?_)
          refine lv_iconst (v := 1) X.1 X.2.1 dX8_length_63 (by decide) ?_
          exact ab_iret X S hr hF dX8_length_64
        · have hF := ab_neg c21 hF
          exact w_X8_length_54 X hr  S (lv_sub hl [] rfl) hF
    · have hF := ab_neg (fun q => q c10) hF
      exact w_X8_length_20 X hr  S (lv_sub hl [] rfl) hF
def f_X8_tolerance_33   (h : Hp) : Option (Int32 × Hp) :=
  some ((-1), h)
set_option maxHeartbeats 4000000 in
set_option maxRecDepth 100000 in
theorem w_X8_tolerance_33 {p : Program} {l : Launch} {e : Env} {s : State} {m : MethodId} {args : Array Value} {below : List Frame} {meth : Method} {c : Code} {D : va_G} {cA : Nat → ClassId} {sz : Nat} {rr : Int32} {hh : Hp}  (X : ab_X p s m args meth c cX8_tolerance 8 RX8 D cA sz) (hr : meth.sig.returnType = (some .int))  {H : Heap} {locs : List Loc} {ls : Array Slot}  {h : Hp} (S : ab_H D cA sz h s H locs) (hl : lv_has ls 8 []) (hF : f_X8_tolerance_33  h = some (rr, hh)) : W p l e (ab_rm 1 0 0) s m args below meth c H locs 0 0 (MQ below (ab_Q D cA sz (some (.int rr)) hh) args s 0 0 (fun q => sz ≤ q)) (F0 m 33 ls []) := by
  unfold f_X8_tolerance_33 at hF
  refine lv_iconst (v := (-1)) X.1 X.2.1 dX8_tolerance_33 (by decide) ?_
  exact ab_iret X S hr hF dX8_tolerance_34
def f_X8_tolerance (this : Nat) (p0 : Int32) (p1 : Int64) (p2 : Int64) (p3 : Int32) (h : Hp) : Option (Int32 × Hp) :=
  (ab_ck h (some this) (8, 0)).bind fun a4 =>
  bnd (f_X8_runAt a4 p0 h) fun x1 h2 =>
  if x1 = none then
    f_X8_tolerance_33 h2
  else
    bnd (f_X8_isK p3 h2) fun x7 h8 =>
    if x7 = 0 then
      f_X8_tolerance_33 h8
    else
      if (lg_cmp p1 1) < 0 then
        f_X8_tolerance_33 h8
      else
        if 0 ≤ (lg_cmp p2 0) then
          bnd (f_X8_quotient p1 p3 h8) fun x13 h14 =>
          (putD h14 x1 4 5 x13).bind fun h16 =>
          bnd (f_X8_quotient p2 p3 h16) fun x17 h18 =>
          (putD h18 x1 4 6 x17).bind fun h20 =>
          some (1, h20)
        else
          f_X8_tolerance_33 h8
theorem mi_X8_tolerance : ab_MI yX8_tolerance cX8_tolerance 8 (some .int) 4 := ⟨lc_yX8_tolerance, lz_RX8, by decide, by decide, by decide +kernel⟩
set_option maxHeartbeats 4000000 in
set_option maxRecDepth 100000 in
theorem c_X8_tolerance (l : Launch) (D : va_G) (cA : Nat → ClassId) (sz : Nat) {this : Nat} {p0 : Int32} {p1 : Int64} {p2 : Int64} {p3 : Int32} {h hh : Hp} {rr : Int32} (hF : f_X8_tolerance this p0 p1 p2 p3 h = some (rr, hh)) : ab_C l D cA sz yX8_tolerance cX8_tolerance 8 (some .int) 1 0 0 [.ref this, .int p0, .long p1, .long p2, .int p3] h (some (.int rr)) hh := by
  refine Met.ofW (cc := cX8_tolerance) (maxL := 8) (ret := (some .int)) (by decide) rfl ?_
  intro p e s m args below meth c s₁ B hml hv
  obtain ⟨rfl, hT, hR⟩ := hv
  have X : ab_X p s m _ meth c cX8_tolerance 8 RX8 D cA sz := (ab_enter B hml hT hR).1
  have S := (ab_enter B hml hT hR).2
  have hr := B.returns
  obtain ⟨ls, hls, hl⟩ := ab_entry m [.ref this, .int p0, .long p1, .long p2, .int p3] 8 (lv := [(0, .ref this), (1, .int p0), (2, .long p1), (4, .long p2), (6, .int p3)]) (by simp [lg_sl, ab_cat, ab_cI, ab_cJ, ab_cD, ab_cF, ab_cA]) (by simp [lv_args, ab_cat, ab_cI, ab_cJ, ab_cD, ab_cF, ab_cA])
  rw [hls]
  have hl : lv_has ls 8 [(0, va_rf (some this)), (1, .int p0), (2, .long p1), (4, .long p2), (6, .int p3)] := hl
  unfold f_X8_tolerance at hF
  show W p l e (ab_rm 1 0 0) s m _ below meth c s.heap [] 0 0 _ _
  refine ab_aload_n X dX8_tolerance_0 rfl (lv_at hl 0 rfl) ?_
  refine lv_iload_n X.1 X.2.1 dX8_tolerance_1 rfl (lv_at hl 1 rfl) ?_
  obtain ⟨a4, e5, hF⟩ := bind_out hF
  obtain ⟨x1, h2, e3, hF⟩ := bnd_out hF
  refine ab_callVa X S e5 (c_X8_runAt l D cA sz e3) rfl (by decide) mi_X8_runAt lm_X8_119 li_yX8_runAt ls_yX8_runAt (As := [.int p0]) (rest := []) rfl ⟨by decide, by decide⟩ ⟨by decide, by decide⟩ hl.1 rfl (by simp [ab_cat, ab_cI, ab_cJ, ab_cD, ab_cF]) dX8_tolerance_2 (fun H1 locs1 S => ?_)
  refine ab_astore (lv' := [(7, va_rf x1), (0, va_rf (some this)), (1, .int p0), (2, .long p1), (4, .long p2), (6, .int p3)]) X dX8_tolerance_5 hl (by decide) (by simp [ab_cat, ab_cI, ab_cJ, ab_cD, ab_cF]) (fun ls hl => ?_)
  refine ab_aload X dX8_tolerance_7 (lv_at hl 0 rfl) ?_
  refine ab_ifnull (tgt := 33) X dX8_tolerance_9 (by decide) (fun c6 => ?_) (fun c6 => ?_)
  · have hF := ab_pos c6 hF
    exact w_X8_tolerance_33 X hr  S (lv_sub hl [] rfl) hF
  · have hF := ab_neg c6 hF
    refine lv_iload X.1 X.2.1 dX8_tolerance_12 (lv_at hl 5 rfl) ?_
    obtain ⟨x7, h8, e9, hF⟩ := bnd_out hF
    refine ab_callSi X S (c_X8_isK l D cA sz e9) mi_X8_isK lm_X8_67 lt_yX8_isK (As := [.int p3]) (rest := []) rfl ⟨by decide, by decide⟩ ⟨by decide, by decide⟩ hl.1 rfl (by simp [ab_cat, ab_cI, ab_cJ, ab_cD, ab_cF]) dX8_tolerance_14 (fun H1 locs1 S => ?_)
    refine lv_if_eq (tgt := 33) X.1 X.2.1 dX8_tolerance_17 (by decide) (fun c10 => ?_) (fun c10 => ?_)
    · have hF := ab_pos c10 hF
      exact w_X8_tolerance_33 X hr  S (lv_sub hl [] rfl) hF
    · have hF := ab_neg c10 hF
      refine lv_lload_n X.1 X.2.1 dX8_tolerance_20 rfl (lv_at hl 3 rfl) ?_
      refine lv_lconst (v := 1) X.1 X.2.1 dX8_tolerance_21 (by decide) ?_
      refine W.lcmp X.1 X.2.1 dX8_tolerance_22 ?_
      refine lv_if_lt (tgt := 33) X.1 X.2.1 dX8_tolerance_23 (by decide) (fun c11 => ?_) (fun c11 => ?_)
      · have hF := ab_pos c11 hF
        exact w_X8_tolerance_33 X hr  S (lv_sub hl [] rfl) hF
      · have hF := ab_neg c11 hF
        refine lv_lload X.1 X.2.1 dX8_tolerance_26 (lv_at hl 4 rfl) ?_
        refine lv_lconst (v := 0) X.1 X.2.1 dX8_tolerance_28 (by decide) ?_
        refine W.lcmp X.1 X.2.1 dX8_tolerance_29 ?_
        refine lv_if_ge (tgt := 35) X.1 X.2.1 dX8_tolerance_30 (by decide) (fun c12 => ?_) (fun c12 => ?_)
        · have hF := ab_pos c12 hF
          refine ab_aload X dX8_tolerance_35 (lv_at hl 0 rfl) ?_
          refine lv_lload_n X.1 X.2.1 dX8_tolerance_37 rfl (lv_at hl 3 rfl) ?_
          refine lv_iload X.1 X.2.1 dX8_tolerance_38 (lv_at hl 5 rfl) ?_
          obtain ⟨x13, h14, e15, hF⟩ := bnd_out hF
          refine ab_callSd X S (c_X8_quotient l D cA sz e15) mi_X8_quotient lm_X8_71 lt_yX8_quotient (As := [.long p1, .int p3]) (rest := [va_rf x1]) rfl ⟨by decide, by decide⟩ ⟨by decide, by decide⟩ hl.1 rfl (by simp [ab_cat, ab_cI, ab_cJ, ab_cD, ab_cF]) dX8_tolerance_40 (fun H1 locs1 S => ?_)
          refine ab_putD X S hF fi_4_5 ci_4 (Or.inl rfl) rfl lf_X8_160 dX8_tolerance_43 (fun h16 H1 locs1 hF S => ?_)
          refine ab_aload X dX8_tolerance_46 (lv_at hl 0 rfl) ?_
          refine lv_lload X.1 X.2.1 dX8_tolerance_48 (lv_at hl 4 rfl) ?_
          refine lv_iload X.1 X.2.1 dX8_tolerance_50 (lv_at hl 5 rfl) ?_
          obtain ⟨x17, h18, e19, hF⟩ := bnd_out hF
          refine ab_callSd X S (c_X8_quotient l D cA sz e19) mi_X8_quotient lm_X8_71 lt_yX8_quotient (As := [.long p2, .int p3]) (rest := [va_rf x1]) rfl ⟨by decide, by decide⟩ ⟨by decide, by decide⟩ hl.1 rfl (by simp [ab_cat, ab_cI, ab_cJ, ab_cD, ab_cF]) dX8_tolerance_52 (fun H1 locs1 S => ?_)
          refine ab_putD X S hF fi_4_6 ci_4 (Or.inl rfl) rfl lf_X8_163 dX8_tolerance_55 (fun h20 H1 locs1 hF S => ?_)
          refine lv_iconst (v := 1) X.1 X.2.1 dX8_tolerance_58 (by decide) ?_
          exact ab_iret X S hr hF dX8_tolerance_59
        · have hF := ab_neg c12 hF
          exact w_X8_tolerance_33 X hr  S (lv_sub hl [] rfl) hF
def f_X8_event_24   (h : Hp) : Option (Int32 × Hp) :=
  some ((-1), h)
set_option maxHeartbeats 4000000 in
set_option maxRecDepth 100000 in
theorem w_X8_event_24 {p : Program} {l : Launch} {e : Env} {s : State} {m : MethodId} {args : Array Value} {below : List Frame} {meth : Method} {c : Code} {D : va_G} {cA : Nat → ClassId} {sz : Nat} {rr : Int32} {hh : Hp}  (X : ab_X p s m args meth c cX8_event 7 RX8 D cA sz) (hr : meth.sig.returnType = (some .int))  {H : Heap} {locs : List Loc} {ls : Array Slot}  {h : Hp} (S : ab_H D cA sz h s H locs) (hl : lv_has ls 7 []) (hF : f_X8_event_24  h = some (rr, hh)) : W p l e (ab_rm 1 0 0) s m args below meth c H locs 0 0 (MQ below (ab_Q D cA sz (some (.int rr)) hh) args s 0 0 (fun q => sz ≤ q)) (F0 m 24 ls []) := by
  unfold f_X8_event_24 at hF
  refine lv_iconst (v := (-1)) X.1 X.2.1 dX8_event_24 (by decide) ?_
  exact ab_iret X S hr hF dX8_event_25
def f_X8_event_47   (h : Hp) : Option (Int32 × Hp) :=
  some ((-1), h)
set_option maxHeartbeats 4000000 in
set_option maxRecDepth 100000 in
theorem w_X8_event_47 {p : Program} {l : Launch} {e : Env} {s : State} {m : MethodId} {args : Array Value} {below : List Frame} {meth : Method} {c : Code} {D : va_G} {cA : Nat → ClassId} {sz : Nat} {rr : Int32} {hh : Hp}  (X : ab_X p s m args meth c cX8_event 7 RX8 D cA sz) (hr : meth.sig.returnType = (some .int))  {H : Heap} {locs : List Loc} {ls : Array Slot}  {h : Hp} (S : ab_H D cA sz h s H locs) (hl : lv_has ls 7 []) (hF : f_X8_event_47  h = some (rr, hh)) : W p l e (ab_rm 1 0 0) s m args below meth c H locs 0 0 (MQ below (ab_Q D cA sz (some (.int rr)) hh) args s 0 0 (fun q => sz ≤ q)) (F0 m 47 ls []) := by
  unfold f_X8_event_47 at hF
  refine lv_iconst (v := (-1)) X.1 X.2.1 dX8_event_47 (by decide) ?_
  exact ab_iret X S hr hF dX8_event_48
def f_X8_event (this : Nat) (p0 : Int32) (p1 : Int32) (p2 : Int32) (p3 : Int32) (p4 : Int32) (h : Hp) : Option (Int32 × Hp) :=
  (ab_ck h (some this) (8, 0)).bind fun a4 =>
  bnd (f_X8_runAt a4 p0 h) fun x1 h2 =>
  if x1 = none then
    f_X8_event_24 h2
  else
    (getR h2 x1 4 0).bind fun x7 =>
    (ab_ck h2 x7 (1, 0)).bind fun a11 =>
    bnd (f_X1_hasNode a11 p1 h2) fun x8 h9 =>
    if ¬ x8 = 0 then
      if p2 < (-1) then
        f_X8_event_47 h9
      else
        if 1 < p2 then
          f_X8_event_47 h9
        else
          if p3 < 0 then
            f_X8_event_47 h9
          else
            if p3 ≤ 3 then
              (getR h9 x1 4 10).bind fun x18 =>
              (ab_ck h9 x18 (0, 0)).bind fun a22 =>
              bnd (f_X0_add a22 p1 p2 p3 p4 h9) fun x19 h20 =>
              some (x19, h20)
            else
              f_X8_event_47 h9
    else
      f_X8_event_24 h9
theorem mi_X8_event : ab_MI yX8_event cX8_event 7 (some .int) 5 := ⟨lc_yX8_event, lz_RX8, by decide, by decide, by decide +kernel⟩
set_option maxHeartbeats 4000000 in
set_option maxRecDepth 100000 in
theorem c_X8_event (l : Launch) (D : va_G) (cA : Nat → ClassId) (sz : Nat) {this : Nat} {p0 : Int32} {p1 : Int32} {p2 : Int32} {p3 : Int32} {p4 : Int32} {h hh : Hp} {rr : Int32} (hF : f_X8_event this p0 p1 p2 p3 p4 h = some (rr, hh)) : ab_C l D cA sz yX8_event cX8_event 7 (some .int) 1 0 0 [.ref this, .int p0, .int p1, .int p2, .int p3, .int p4] h (some (.int rr)) hh := by
  refine Met.ofW (cc := cX8_event) (maxL := 7) (ret := (some .int)) (by decide) rfl ?_
  intro p e s m args below meth c s₁ B hml hv
  obtain ⟨rfl, hT, hR⟩ := hv
  have X : ab_X p s m _ meth c cX8_event 7 RX8 D cA sz := (ab_enter B hml hT hR).1
  have S := (ab_enter B hml hT hR).2
  have hr := B.returns
  obtain ⟨ls, hls, hl⟩ := ab_entry m [.ref this, .int p0, .int p1, .int p2, .int p3, .int p4] 7 (lv := [(0, .ref this), (1, .int p0), (2, .int p1), (3, .int p2), (4, .int p3), (5, .int p4)]) (by simp [lg_sl, ab_cat, ab_cI, ab_cJ, ab_cD, ab_cF, ab_cA]) (by simp [lv_args, ab_cat, ab_cI, ab_cJ, ab_cD, ab_cF, ab_cA])
  rw [hls]
  have hl : lv_has ls 7 [(0, va_rf (some this)), (1, .int p0), (2, .int p1), (3, .int p2), (4, .int p3), (5, .int p4)] := hl
  unfold f_X8_event at hF
  show W p l e (ab_rm 1 0 0) s m _ below meth c s.heap [] 0 0 _ _
  refine ab_aload_n X dX8_event_0 rfl (lv_at hl 0 rfl) ?_
  refine lv_iload_n X.1 X.2.1 dX8_event_1 rfl (lv_at hl 1 rfl) ?_
  obtain ⟨a4, e5, hF⟩ := bind_out hF
  obtain ⟨x1, h2, e3, hF⟩ := bnd_out hF
  refine ab_callVa X S e5 (c_X8_runAt l D cA sz e3) rfl (by decide) mi_X8_runAt lm_X8_119 li_yX8_runAt ls_yX8_runAt (As := [.int p0]) (rest := []) rfl ⟨by decide, by decide⟩ ⟨by decide, by decide⟩ hl.1 rfl (by simp [ab_cat, ab_cI, ab_cJ, ab_cD, ab_cF]) dX8_event_2 (fun H1 locs1 S => ?_)
  refine ab_astore (lv' := [(6, va_rf x1), (0, va_rf (some this)), (1, .int p0), (2, .int p1), (3, .int p2), (4, .int p3), (5, .int p4)]) X dX8_event_5 hl (by decide) (by simp [ab_cat, ab_cI, ab_cJ, ab_cD, ab_cF]) (fun ls hl => ?_)
  refine ab_aload X dX8_event_7 (lv_at hl 0 rfl) ?_
  refine ab_ifnull (tgt := 24) X dX8_event_9 (by decide) (fun c6 => ?_) (fun c6 => ?_)
  · have hF := ab_pos c6 hF
    exact w_X8_event_24 X hr  S (lv_sub hl [] rfl) hF
  · have hF := ab_neg c6 hF
    refine ab_aload X dX8_event_12 (lv_at hl 0 rfl) ?_
    refine ab_getR X S hF fi_4_0 lf_X8_92 dX8_event_14 (fun x7 hF => ?_)
    refine lv_iload_n X.1 X.2.1 dX8_event_17 rfl (lv_at hl 3 rfl) ?_
    obtain ⟨a11, e12, hF⟩ := bind_out hF
    obtain ⟨x8, h9, e10, hF⟩ := bnd_out hF
    refine ab_callVi X S e12 (c_X1_hasNode l D cA sz e10) rfl (by decide) mi_X1_hasNode lm_X8_86 li_yX1_hasNode ls_yX1_hasNode (As := [.int p1]) (rest := []) rfl ⟨by decide, by decide⟩ ⟨by decide, by decide⟩ hl.1 rfl (by simp [ab_cat, ab_cI, ab_cJ, ab_cD, ab_cF]) dX8_event_18 (fun H1 locs1 S => ?_)
    refine lv_if_ne (tgt := 26) X.1 X.2.1 dX8_event_21 (by decide) (fun c13 => ?_) (fun c13 => ?_)
    · have hF := ab_pos c13 hF
      refine lv_iload_n X.1 X.2.1 dX8_event_26 rfl (lv_at hl 4 rfl) ?_
      refine lv_iconst (v := (-1)) X.1 X.2.1 dX8_event_27 (by decide) ?_
      refine lv_icmp_lt (tgt := 47) X.1 X.2.1 dX8_event_28 (by decide) (fun c14 => ?_) (fun c14 => ?_)
      · have hF := ab_pos c14 hF
        exact w_X8_event_47 X hr  S (lv_sub hl [] rfl) hF
      · have hF := ab_neg c14 hF
        refine lv_iload_n X.1 X.2.1 dX8_event_31 rfl (lv_at hl 4 rfl) ?_
        refine lv_iconst (v := 1) X.1 X.2.1 dX8_event_32 (by decide) ?_
        refine lv_icmp_gt (tgt := 47) X.1 X.2.1 dX8_event_33 (by decide) (fun c15 => ?_) (fun c15 => ?_)
        · have hF := ab_pos c15 hF
          exact w_X8_event_47 X hr  S (lv_sub hl [] rfl) hF
        · have hF := ab_neg c15 hF
          refine lv_iload X.1 X.2.1 dX8_event_36 (lv_at hl 5 rfl) ?_
          refine lv_if_lt (tgt := 47) X.1 X.2.1 dX8_event_38 (by decide) (fun c16 => ?_) (fun c16 => ?_)
          · have hF := ab_pos c16 hF
            exact w_X8_event_47 X hr  S (lv_sub hl [] rfl) hF
          · have hF := ab_neg c16 hF
            refine lv_iload X.1 X.2.1 dX8_event_41 (lv_at hl 5 rfl) ?_
            refine lv_iconst (v := 3) X.1 X.2.1 dX8_event_43 (by decide) ?_
            refine lv_icmp_le (tgt := 49) X.1 X.2.1 dX8_event_44 (by decide) (fun c17 => ?_) (fun c17 => ?_)
            · have hF := ab_pos c17 hF
              refine ab_aload X dX8_event_49 (lv_at hl 0 rfl) ?_
              refine ab_getR X S hF fi_4_10 lf_X8_166 dX8_event_51 (fun x18 hF => ?_)
              refine lv_iload_n X.1 X.2.1 dX8_event_54 rfl (lv_at hl 3 rfl) ?_
              refine lv_iload_n X.1 X.2.1 dX8_event_55 rfl (lv_at hl 4 rfl) ?_
              refine lv_iload X.1 X.2.1 dX8_event_56 (lv_at hl 5 rfl) ?_
              refine lv_iload X.1 X.2.1 dX8_event_58 (lv_at hl 6 rfl) ?_
              obtain ⟨a22, e23, hF⟩ := bind_out hF
              obtain ⟨x19, h20, e21, hF⟩ := bnd_out hF
              refine ab_callVi X S e23 (c_X0_add l D cA sz e21) rfl (by decide) mi_X0_add lm_X8_170 li_yX0_add ls_yX0_add (As := [.int p1, .int p2, .int p3, .int p4]) (rest := []) rfl ⟨by decide, by decide⟩ ⟨by decide, by decide⟩ hl.1 rfl (by simp [ab_cat, ab_cI, ab_cJ, ab_cD, ab_cF]) dX8_event_60 (fun H1 locs1 S => ?_)
              exact ab_iret X S hr hF dX8_event_63
            · have hF := ab_neg c17 hF
              exact w_X8_event_47 X hr  S (lv_sub hl [] rfl) hF
    · have hF := ab_neg (fun q => q c13) hF
      exact w_X8_event_24 X hr  S (lv_sub hl [] rfl) hF
def f_X8_clock (this : Nat) (p0 : Int32) (p1 : Int32) (h : Hp) : Option (Int64 × Hp) :=
  (ab_ck h (some this) (8, 0)).bind fun a4 =>
  bnd (f_X8_runAt a4 p0 h) fun x1 h2 =>
  if ¬ x1 = none then
    if p1.toInt < 0 ∨ 3 < p1.toInt then
      some ((9221120237041090560), h2)
    else if p1 = 0 then
      (getR h2 (some this) 8 1).bind fun x9 =>
      (getD h2 x1 4 1).bind fun x10 =>
      (ab_ck h2 x9 (7, 0)).bind fun a14 =>
      bnd (f_X7_bits a14 x10 h2) fun x11 h12 =>
      some (x11, h12)
    else if p1 = 1 then
      (getR h2 (some this) 8 1).bind fun x17 =>
      (getD h2 x1 4 4).bind fun x18 =>
      (ab_ck h2 x17 (7, 0)).bind fun a22 =>
      bnd (f_X7_bits a22 x18 h2) fun x19 h20 =>
      some (x19, h20)
    else if p1 = 2 then
      (getR h2 (some this) 8 1).bind fun x25 =>
      (getR h2 x1 4 11).bind fun x26 =>
      (getD h2 x26 6 12).bind fun x27 =>
      (ab_ck h2 x25 (7, 0)).bind fun a31 =>
      bnd (f_X7_bits a31 x27 h2) fun x28 h29 =>
      some (x28, h29)
    else if p1 = 3 then
      (getR h2 (some this) 8 1).bind fun x34 =>
      (getR h2 x1 4 11).bind fun x35 =>
      (getD h2 x35 6 4).bind fun x36 =>
      (ab_ck h2 x34 (7, 0)).bind fun a40 =>
      bnd (f_X7_bits a40 x36 h2) fun x37 h38 =>
      some (x37, h38)
    else none
  else
    some ((9221120237041090560), h2)
theorem mi_X8_clock : ab_MI yX8_clock cX8_clock 4 (some .long) 2 := ⟨lc_yX8_clock, lz_RX8, by decide, by decide, by decide +kernel⟩
set_option maxHeartbeats 4000000 in
set_option maxRecDepth 100000 in
theorem c_X8_clock (l : Launch) (D : va_G) (cA : Nat → ClassId) (sz : Nat) {this : Nat} {p0 : Int32} {p1 : Int32} {h hh : Hp} {rr : Int64} (hF : f_X8_clock this p0 p1 h = some (rr, hh)) : ab_C l D cA sz yX8_clock cX8_clock 4 (some .long) 2 0 0 [.ref this, .int p0, .int p1] h (some (.long rr)) hh := by
  refine Met.ofW (cc := cX8_clock) (maxL := 4) (ret := (some .long)) (by decide) rfl ?_
  intro p e s m args below meth c s₁ B hml hv
  obtain ⟨rfl, hT, hR⟩ := hv
  have X : ab_X p s m _ meth c cX8_clock 4 RX8 D cA sz := (ab_enter B hml hT hR).1
  have S := (ab_enter B hml hT hR).2
  have hr := B.returns
  obtain ⟨ls, hls, hl⟩ := ab_entry m [.ref this, .int p0, .int p1] 4 (lv := [(0, .ref this), (1, .int p0), (2, .int p1)]) (by simp [lg_sl, ab_cat, ab_cI, ab_cJ, ab_cD, ab_cF, ab_cA]) (by simp [lv_args, ab_cat, ab_cI, ab_cJ, ab_cD, ab_cF, ab_cA])
  rw [hls]
  have hl : lv_has ls 4 [(0, va_rf (some this)), (1, .int p0), (2, .int p1)] := hl
  unfold f_X8_clock at hF
  show W p l e (ab_rm 2 0 0) s m _ below meth c s.heap [] 0 0 _ _
  refine ab_aload_n X dX8_clock_0 rfl (lv_at hl 0 rfl) ?_
  refine lv_iload_n X.1 X.2.1 dX8_clock_1 rfl (lv_at hl 1 rfl) ?_
  obtain ⟨a4, e5, hF⟩ := bind_out hF
  obtain ⟨x1, h2, e3, hF⟩ := bnd_out hF
  refine ab_callVa X S e5 (c_X8_runAt l D cA sz e3) rfl (by decide) mi_X8_runAt lm_X8_119 li_yX8_runAt ls_yX8_runAt (As := [.int p0]) (rest := []) rfl ⟨by decide, by decide⟩ ⟨by decide, by decide⟩ hl.1 rfl (by simp [ab_cat, ab_cI, ab_cJ, ab_cD, ab_cF]) dX8_clock_2 (fun H1 locs1 S => ?_)
  refine ab_astore_n (i := 3) (lv' := [(3, va_rf x1), (0, va_rf (some this)), (1, .int p0), (2, .int p1)]) X dX8_clock_5 rfl hl (by decide) (by simp [ab_cat, ab_cI, ab_cJ, ab_cD, ab_cF]) (fun ls hl => ?_)
  refine ab_aload_n X dX8_clock_6 rfl (lv_at hl 0 rfl) ?_
  refine ab_ifnonnull (tgt := 14) X dX8_clock_7 (by decide) (fun c6 => ?_) (fun c6 => ?_)
  · have hF := ab_pos c6 hF
    refine lv_iload_n X.1 X.2.1 dX8_clock_14 rfl (lv_at hl 3 rfl) ?_
    by_cases c7 : p1.toInt < 0 ∨ 3 < p1.toInt
    · have hF := ab_pos c7 hF
      refine lv_tableOut (tgt := 98) X.1 X.2.1 dX8_clock_15 c7 (by decide) ?_
      refine lv_ldc2 (v := (9221120237041090560)) X.1 X.2.1 X.2.2.2.1 (X.2.2.2.2.1 _ ll_X8_190) dX8_clock_98 ?_
      exact ab_lret X S hr hF dX8_clock_101
    have hF := ab_neg c7 hF
    by_cases c8 : p1 = 0
    · have hF := ab_pos c8 hF
      refine ab_tab (tgt := 44) X dX8_clock_15 c8 (by decide) (by decide) rfl (by decide) ?_
      refine ab_aload_n X dX8_clock_44 rfl (lv_at hl 1 rfl) ?_
      refine ab_getR X S hF fi_8_1 lf_X8_19 dX8_clock_45 (fun x9 hF => ?_)
      refine ab_aload_n X dX8_clock_48 rfl (lv_at hl 0 rfl) ?_
      refine ab_getD X S hF fi_4_1 lf_X8_179 dX8_clock_49 (fun x10 hF => ?_)
      obtain ⟨a14, e15, hF⟩ := bind_out hF
      obtain ⟨x11, h12, e13, hF⟩ := bnd_out hF
      refine ab_callVl X S e15 (c_X7_bits l D cA sz e13) rfl (by decide) mi_X7_bits lm_X8_196 li_yX7_bits ls_yX7_bits (As := [.double x10]) (rest := []) rfl ⟨by decide, by decide⟩ ⟨by decide, by decide⟩ hl.1 rfl (by simp [ab_cat, ab_cI, ab_cJ, ab_cD, ab_cF]) dX8_clock_52 (fun H1 locs1 S => ?_)
      exact ab_lret X S hr hF dX8_clock_55
    have hF := ab_neg c8 hF
    by_cases c16 : p1 = 1
    · have hF := ab_pos c16 hF
      refine ab_tab (tgt := 56) X dX8_clock_15 c16 (by decide) (by decide) rfl (by decide) ?_
      refine ab_aload_n X dX8_clock_56 rfl (lv_at hl 1 rfl) ?_
      refine ab_getR X S hF fi_8_1 lf_X8_19 dX8_clock_57 (fun x17 hF => ?_)
      refine ab_aload_n X dX8_clock_60 rfl (lv_at hl 0 rfl) ?_
      refine ab_getD X S hF fi_4_4 lf_X8_156 dX8_clock_61 (fun x18 hF => ?_)
      obtain ⟨a22, e23, hF⟩ := bind_out hF
      obtain ⟨x19, h20, e21, hF⟩ := bnd_out hF
      refine ab_callVl X S e23 (c_X7_bits l D cA sz e21) rfl (by decide) mi_X7_bits lm_X8_196 li_yX7_bits ls_yX7_bits (As := [.double x18]) (rest := []) rfl ⟨by decide, by decide⟩ ⟨by decide, by decide⟩ hl.1 rfl (by simp [ab_cat, ab_cI, ab_cJ, ab_cD, ab_cF]) dX8_clock_64 (fun H1 locs1 S => ?_)
      exact ab_lret X S hr hF dX8_clock_67
    have hF := ab_neg c16 hF
    by_cases c24 : p1 = 2
    · have hF := ab_pos c24 hF
      refine ab_tab (tgt := 68) X dX8_clock_15 c24 (by decide) (by decide) rfl (by decide) ?_
      refine ab_aload_n X dX8_clock_68 rfl (lv_at hl 1 rfl) ?_
      refine ab_getR X S hF fi_8_1 lf_X8_19 dX8_clock_69 (fun x25 hF => ?_)
      refine ab_aload_n X dX8_clock_72 rfl (lv_at hl 0 rfl) ?_
      refine ab_getR X S hF fi_4_11 lf_X8_200 dX8_clock_73 (fun x26 hF => ?_)
      refine ab_getD X S hF fi_6_12 lf_X8_203 dX8_clock_76 (fun x27 hF => ?_)
      obtain ⟨a31, e32, hF⟩ := bind_out hF
      obtain ⟨x28, h29, e30, hF⟩ := bnd_out hF
      refine ab_callVl X S e32 (c_X7_bits l D cA sz e30) rfl (by decide) mi_X7_bits lm_X8_196 li_yX7_bits ls_yX7_bits (As := [.double x27]) (rest := []) rfl ⟨by decide, by decide⟩ ⟨by decide, by decide⟩ hl.1 rfl (by simp [ab_cat, ab_cI, ab_cJ, ab_cD, ab_cF]) dX8_clock_79 (fun H1 locs1 S => ?_)
      exact ab_lret X S hr hF dX8_clock_82
    have hF := ab_neg c24 hF
    by_cases c33 : p1 = 3
    · have hF := ab_pos c33 hF
      refine ab_tab (tgt := 83) X dX8_clock_15 c33 (by decide) (by decide) rfl (by decide) ?_
      refine ab_aload_n X dX8_clock_83 rfl (lv_at hl 1 rfl) ?_
      refine ab_getR X S hF fi_8_1 lf_X8_19 dX8_clock_84 (fun x34 hF => ?_)
      refine ab_aload_n X dX8_clock_87 rfl (lv_at hl 0 rfl) ?_
      refine ab_getR X S hF fi_4_11 lf_X8_200 dX8_clock_88 (fun x35 hF => ?_)
      refine ab_getD X S hF fi_6_4 lf_X8_206 dX8_clock_91 (fun x36 hF => ?_)
      obtain ⟨a40, e41, hF⟩ := bind_out hF
      obtain ⟨x37, h38, e39, hF⟩ := bnd_out hF
      refine ab_callVl X S e41 (c_X7_bits l D cA sz e39) rfl (by decide) mi_X7_bits lm_X8_196 li_yX7_bits ls_yX7_bits (As := [.double x36]) (rest := []) rfl ⟨by decide, by decide⟩ ⟨by decide, by decide⟩ hl.1 rfl (by simp [ab_cat, ab_cI, ab_cJ, ab_cD, ab_cF]) dX8_clock_94 (fun H1 locs1 S => ?_)
      exact ab_lret X S hr hF dX8_clock_97
    have hF := ab_neg c33 hF
    cases hF
  · have hF := ab_neg c6 hF
    refine lv_ldc2 (v := (9221120237041090560)) X.1 X.2.1 X.2.2.2.1 (X.2.2.2.2.1 _ ll_X8_190) dX8_clock_10 ?_
    exact ab_lret X S hr hF dX8_clock_13
def f_X8_count_103  (u0 : Int32) (h : Hp) : Option (Int32 × Hp) :=
  some (u0, h)
set_option maxHeartbeats 4000000 in
set_option maxRecDepth 100000 in
theorem w_X8_count_103 {p : Program} {l : Launch} {e : Env} {s : State} {m : MethodId} {args : Array Value} {below : List Frame} {meth : Method} {c : Code} {D : va_G} {cA : Nat → ClassId} {sz : Nat} {rr : Int32} {hh : Hp}  (X : ab_X p s m args meth c cX8_count 4 RX8 D cA sz) (hr : meth.sig.returnType = (some .int))  {H : Heap} {locs : List Loc} {ls : Array Slot} {u0 : Int32} {h : Hp} (S : ab_H D cA sz h s H locs) (hl : lv_has ls 4 []) (hF : f_X8_count_103 u0 h = some (rr, hh)) : W p l e (ab_rm 1 0 0) s m args below meth c H locs 0 0 (MQ below (ab_Q D cA sz (some (.int rr)) hh) args s 0 0 (fun q => sz ≤ q)) (F0 m 103 ls [.int u0]) := by
  unfold f_X8_count_103 at hF
  exact ab_iret X S hr hF dX8_count_103
def f_X8_count (this : Nat) (p0 : Int32) (p1 : Int32) (h : Hp) : Option (Int32 × Hp) :=
  (ab_ck h (some this) (8, 0)).bind fun a4 =>
  bnd (f_X8_runAt a4 p0 h) fun x1 h2 =>
  if ¬ x1 = none then
    if p1.toInt < 0 ∨ 7 < p1.toInt then
      some ((-1), h2)
    else if p1 = 0 then
      (getR h2 x1 4 0).bind fun x9 =>
      (getI h2 x9 1 0).bind fun x10 =>
      some (x10, h2)
    else if p1 = 1 then
      (getI h2 x1 4 3).bind fun x12 =>
      some (x12, h2)
    else if p1 = 2 then
      (getI h2 x1 4 8).bind fun x14 =>
      some (x14, h2)
    else if p1 = 3 then
      (getI h2 x1 4 9).bind fun x16 =>
      some (x16, h2)
    else if p1 = 4 then
      (getR h2 x1 4 11).bind fun x18 =>
      (getI h2 x18 6 13).bind fun x19 =>
      some (x19, h2)
    else if p1 = 5 then
      (getI h2 x1 4 7).bind fun x21 =>
      if x21 = 0 then
        f_X8_count_103 0 h2
      else
        f_X8_count_103 1 h2
    else if p1 = 6 then
      (getR h2 x1 4 10).bind fun x24 =>
      (getI h2 x24 0 0).bind fun x25 =>
      some (x25, h2)
    else if p1 = 7 then
      (getR h2 x1 4 10).bind fun x27 =>
      (getI h2 x27 0 6).bind fun x28 =>
      some (x28, h2)
    else none
  else
    some ((-1), h2)
theorem mi_X8_count : ab_MI yX8_count cX8_count 4 (some .int) 2 := ⟨lc_yX8_count, lz_RX8, by decide, by decide, by decide +kernel⟩
set_option maxHeartbeats 4000000 in
set_option maxRecDepth 100000 in
theorem c_X8_count (l : Launch) (D : va_G) (cA : Nat → ClassId) (sz : Nat) {this : Nat} {p0 : Int32} {p1 : Int32} {h hh : Hp} {rr : Int32} (hF : f_X8_count this p0 p1 h = some (rr, hh)) : ab_C l D cA sz yX8_count cX8_count 4 (some .int) 1 0 0 [.ref this, .int p0, .int p1] h (some (.int rr)) hh := by
  refine Met.ofW (cc := cX8_count) (maxL := 4) (ret := (some .int)) (by decide) rfl ?_
  intro p e s m args below meth c s₁ B hml hv
  obtain ⟨rfl, hT, hR⟩ := hv
  have X : ab_X p s m _ meth c cX8_count 4 RX8 D cA sz := (ab_enter B hml hT hR).1
  have S := (ab_enter B hml hT hR).2
  have hr := B.returns
  obtain ⟨ls, hls, hl⟩ := ab_entry m [.ref this, .int p0, .int p1] 4 (lv := [(0, .ref this), (1, .int p0), (2, .int p1)]) (by simp [lg_sl, ab_cat, ab_cI, ab_cJ, ab_cD, ab_cF, ab_cA]) (by simp [lv_args, ab_cat, ab_cI, ab_cJ, ab_cD, ab_cF, ab_cA])
  rw [hls]
  have hl : lv_has ls 4 [(0, va_rf (some this)), (1, .int p0), (2, .int p1)] := hl
  unfold f_X8_count at hF
  show W p l e (ab_rm 1 0 0) s m _ below meth c s.heap [] 0 0 _ _
  refine ab_aload_n X dX8_count_0 rfl (lv_at hl 0 rfl) ?_
  refine lv_iload_n X.1 X.2.1 dX8_count_1 rfl (lv_at hl 1 rfl) ?_
  obtain ⟨a4, e5, hF⟩ := bind_out hF
  obtain ⟨x1, h2, e3, hF⟩ := bnd_out hF
  refine ab_callVa X S e5 (c_X8_runAt l D cA sz e3) rfl (by decide) mi_X8_runAt lm_X8_119 li_yX8_runAt ls_yX8_runAt (As := [.int p0]) (rest := []) rfl ⟨by decide, by decide⟩ ⟨by decide, by decide⟩ hl.1 rfl (by simp [ab_cat, ab_cI, ab_cJ, ab_cD, ab_cF]) dX8_count_2 (fun H1 locs1 S => ?_)
  refine ab_astore_n (i := 3) (lv' := [(3, va_rf x1), (0, va_rf (some this)), (1, .int p0), (2, .int p1)]) X dX8_count_5 rfl hl (by decide) (by simp [ab_cat, ab_cI, ab_cJ, ab_cD, ab_cF]) (fun ls hl => ?_)
  refine ab_aload_n X dX8_count_6 rfl (lv_at hl 0 rfl) ?_
  refine ab_ifnonnull (tgt := 12) X dX8_count_7 (by decide) (fun c6 => ?_) (fun c6 => ?_)
  · have hF := ab_pos c6 hF
    refine lv_iload_n X.1 X.2.1 dX8_count_12 rfl (lv_at hl 3 rfl) ?_
    by_cases c7 : p1.toInt < 0 ∨ 7 < p1.toInt
    · have hF := ab_pos c7 hF
      refine lv_tableOut (tgt := 120) X.1 X.2.1 dX8_count_13 c7 (by decide) ?_
      refine lv_iconst (v := (-1)) X.1 X.2.1 dX8_count_120 (by decide) ?_
      exact ab_iret X S hr hF dX8_count_121
    have hF := ab_neg c7 hF
    by_cases c8 : p1 = 0
    · have hF := ab_pos c8 hF
      refine ab_tab (tgt := 60) X dX8_count_13 c8 (by decide) (by decide) rfl (by decide) ?_
      refine ab_aload_n X dX8_count_60 rfl (lv_at hl 0 rfl) ?_
      refine ab_getR X S hF fi_4_0 lf_X8_92 dX8_count_61 (fun x9 hF => ?_)
      refine ab_getI X S hF fi_1_0 lf_X8_209 dX8_count_64 (fun x10 hF => ?_)
      exact ab_iret X S hr hF dX8_count_67
    have hF := ab_neg c8 hF
    by_cases c11 : p1 = 1
    · have hF := ab_pos c11 hF
      refine ab_tab (tgt := 68) X dX8_count_13 c11 (by decide) (by decide) rfl (by decide) ?_
      refine ab_aload_n X dX8_count_68 rfl (lv_at hl 0 rfl) ?_
      refine ab_getI X S hF fi_4_3 lf_X8_143 dX8_count_69 (fun x12 hF => ?_)
      exact ab_iret X S hr hF dX8_count_72
    have hF := ab_neg c11 hF
    by_cases c13 : p1 = 2
    · have hF := ab_pos c13 hF
      refine ab_tab (tgt := 73) X dX8_count_13 c13 (by decide) (by decide) rfl (by decide) ?_
      refine ab_aload_n X dX8_count_73 rfl (lv_at hl 0 rfl) ?_
      refine ab_getI X S hF fi_4_8 lf_X8_212 dX8_count_74 (fun x14 hF => ?_)
      exact ab_iret X S hr hF dX8_count_77
    have hF := ab_neg c13 hF
    by_cases c15 : p1 = 3
    · have hF := ab_pos c15 hF
      refine ab_tab (tgt := 78) X dX8_count_13 c15 (by decide) (by decide) rfl (by decide) ?_
      refine ab_aload_n X dX8_count_78 rfl (lv_at hl 0 rfl) ?_
      refine ab_getI X S hF fi_4_9 lf_X8_215 dX8_count_79 (fun x16 hF => ?_)
      exact ab_iret X S hr hF dX8_count_82
    have hF := ab_neg c15 hF
    by_cases c17 : p1 = 4
    · have hF := ab_pos c17 hF
      refine ab_tab (tgt := 83) X dX8_count_13 c17 (by decide) (by decide) rfl (by decide) ?_
      refine ab_aload_n X dX8_count_83 rfl (lv_at hl 0 rfl) ?_
      refine ab_getR X S hF fi_4_11 lf_X8_200 dX8_count_84 (fun x18 hF => ?_)
      refine ab_getI X S hF fi_6_13 lf_X8_218 dX8_count_87 (fun x19 hF => ?_)
      exact ab_iret X S hr hF dX8_count_90
    have hF := ab_neg c17 hF
    by_cases c20 : p1 = 5
    · have hF := ab_pos c20 hF
      refine ab_tab (tgt := 91) X dX8_count_13 c20 (by decide) (by decide) rfl (by decide) ?_
      refine ab_aload_n X dX8_count_91 rfl (lv_at hl 0 rfl) ?_
      refine ab_getI X S hF fi_4_7 lf_X8_123 dX8_count_92 (fun x21 hF => ?_)
      refine lv_if_eq (tgt := 102) X.1 X.2.1 dX8_count_95 (by decide) (fun c22 => ?_) (fun c22 => ?_)
      · have hF := ab_pos c22 hF
        refine lv_iconst (v := 0) X.1 X.2.1 dX8_count_102 (by decide) ?_
        exact w_X8_count_103 X hr  S (lv_sub hl [] rfl) hF
      · have hF := ab_neg c22 hF
        refine lv_iconst (v := 1) X.1 X.2.1 dX8_count_98 (by decide) ?_
        refine lv_goto (tgt := 103) X.1 X.2.1 dX8_count_99 (by decide) ?_
        exact w_X8_count_103 X hr  S (lv_sub hl [] rfl) hF
    have hF := ab_neg c20 hF
    by_cases c23 : p1 = 6
    · have hF := ab_pos c23 hF
      refine ab_tab (tgt := 104) X dX8_count_13 c23 (by decide) (by decide) rfl (by decide) ?_
      refine ab_aload_n X dX8_count_104 rfl (lv_at hl 0 rfl) ?_
      refine ab_getR X S hF fi_4_10 lf_X8_166 dX8_count_105 (fun x24 hF => ?_)
      refine ab_getI X S hF fi_0_0 lf_X8_221 dX8_count_108 (fun x25 hF => ?_)
      exact ab_iret X S hr hF dX8_count_111
    have hF := ab_neg c23 hF
    by_cases c26 : p1 = 7
    · have hF := ab_pos c26 hF
      refine ab_tab (tgt := 112) X dX8_count_13 c26 (by decide) (by decide) rfl (by decide) ?_
      refine ab_aload_n X dX8_count_112 rfl (lv_at hl 0 rfl) ?_
      refine ab_getR X S hF fi_4_10 lf_X8_166 dX8_count_113 (fun x27 hF => ?_)
      refine ab_getI X S hF fi_0_6 lf_X8_224 dX8_count_116 (fun x28 hF => ?_)
      exact ab_iret X S hr hF dX8_count_119
    have hF := ab_neg c26 hF
    cases hF
  · have hF := ab_neg c6 hF
    refine lv_iconst (v := (-1)) X.1 X.2.1 dX8_count_10 (by decide) ?_
    exact ab_iret X S hr hF dX8_count_11
def f_X8_fired_24   (h : Hp) : Option (Int64 × Hp) :=
  some ((9221120237041090560), h)
set_option maxHeartbeats 4000000 in
set_option maxRecDepth 100000 in
theorem w_X8_fired_24 {p : Program} {l : Launch} {e : Env} {s : State} {m : MethodId} {args : Array Value} {below : List Frame} {meth : Method} {c : Code} {D : va_G} {cA : Nat → ClassId} {sz : Nat} {rr : Int64} {hh : Hp}  (X : ab_X p s m args meth c cX8_fired 5 RX8 D cA sz) (hr : meth.sig.returnType = (some .long))  {H : Heap} {locs : List Loc} {ls : Array Slot}  {h : Hp} (S : ab_H D cA sz h s H locs) (hl : lv_has ls 5 []) (hF : f_X8_fired_24  h = some (rr, hh)) : W p l e (ab_rm 2 0 0) s m args below meth c H locs 0 0 (MQ below (ab_Q D cA sz (some (.long rr)) hh) args s 0 0 (fun q => sz ≤ q)) (F0 m 24 ls []) := by
  unfold f_X8_fired_24 at hF
  refine lv_ldc2 (v := (9221120237041090560)) X.1 X.2.1 X.2.2.2.1 (X.2.2.2.2.1 _ ll_X8_190) dX8_fired_24 ?_
  exact ab_lret X S hr hF dX8_fired_27
def f_X8_fired_72  (u0 : Int64) (h : Hp) : Option (Int64 × Hp) :=
  some (u0, h)
set_option maxHeartbeats 4000000 in
set_option maxRecDepth 100000 in
theorem w_X8_fired_72 {p : Program} {l : Launch} {e : Env} {s : State} {m : MethodId} {args : Array Value} {below : List Frame} {meth : Method} {c : Code} {D : va_G} {cA : Nat → ClassId} {sz : Nat} {rr : Int64} {hh : Hp}  (X : ab_X p s m args meth c cX8_fired 5 RX8 D cA sz) (hr : meth.sig.returnType = (some .long))  {H : Heap} {locs : List Loc} {ls : Array Slot} {u0 : Int64} {h : Hp} (S : ab_H D cA sz h s H locs) (hl : lv_has ls 5 []) (hF : f_X8_fired_72 u0 h = some (rr, hh)) : W p l e (ab_rm 2 0 0) s m args below meth c H locs 0 0 (MQ below (ab_Q D cA sz (some (.long rr)) hh) args s 0 0 (fun q => sz ≤ q)) (F0 m 72 ls [.long u0]) := by
  unfold f_X8_fired_72 at hF
  exact ab_lret X S hr hF dX8_fired_72
def f_X8_fired (this : Nat) (p0 : Int32) (p1 : Int32) (p2 : Int32) (h : Hp) : Option (Int64 × Hp) :=
  (ab_ck h (some this) (8, 0)).bind fun a4 =>
  bnd (f_X8_runAt a4 p0 h) fun x1 h2 =>
  if x1 = none then
    f_X8_fired_24 h2
  else
    (getR h2 x1 4 10).bind fun x7 =>
    (ab_ck h2 x7 (0, 0)).bind fun a11 =>
    bnd (f_X0_hasFired a11 p1 h2) fun x8 h9 =>
    if ¬ x8 = 0 then
      if ¬ p2 = 0 then
        if ¬ p2 = 1 then
          f_X8_fired_72 (9221120237041090560) h9
        else
          (getR h9 (some this) 8 1).bind fun x16 =>
          (getR h9 x1 4 10).bind fun x17 =>
          (getR h9 x17 0 8).bind fun x18 =>
          (aldD h9 x18 p1).bind fun x19 =>
          (ab_ck h9 x16 (7, 0)).bind fun a23 =>
          bnd (f_X7_bits a23 x19 h9) fun x20 h21 =>
          f_X8_fired_72 x20 h21
      else
        (getR h9 x1 4 10).bind fun x25 =>
        (getR h9 x25 0 7).bind fun x26 =>
        (aldI h9 x26 11 p1).bind fun x27 =>
        some (x27.toInt64, h9)
    else
      f_X8_fired_24 h9
theorem mi_X8_fired : ab_MI yX8_fired cX8_fired 5 (some .long) 3 := ⟨lc_yX8_fired, lz_RX8, by decide, by decide, by decide +kernel⟩
set_option maxHeartbeats 4000000 in
set_option maxRecDepth 100000 in
theorem c_X8_fired (l : Launch) (D : va_G) (cA : Nat → ClassId) (sz : Nat) {this : Nat} {p0 : Int32} {p1 : Int32} {p2 : Int32} {h hh : Hp} {rr : Int64} (hF : f_X8_fired this p0 p1 p2 h = some (rr, hh)) : ab_C l D cA sz yX8_fired cX8_fired 5 (some .long) 2 0 0 [.ref this, .int p0, .int p1, .int p2] h (some (.long rr)) hh := by
  refine Met.ofW (cc := cX8_fired) (maxL := 5) (ret := (some .long)) (by decide) rfl ?_
  intro p e s m args below meth c s₁ B hml hv
  obtain ⟨rfl, hT, hR⟩ := hv
  have X : ab_X p s m _ meth c cX8_fired 5 RX8 D cA sz := (ab_enter B hml hT hR).1
  have S := (ab_enter B hml hT hR).2
  have hr := B.returns
  obtain ⟨ls, hls, hl⟩ := ab_entry m [.ref this, .int p0, .int p1, .int p2] 5 (lv := [(0, .ref this), (1, .int p0), (2, .int p1), (3, .int p2)]) (by simp [lg_sl, ab_cat, ab_cI, ab_cJ, ab_cD, ab_cF, ab_cA]) (by simp [lv_args, ab_cat, ab_cI, ab_cJ, ab_cD, ab_cF, ab_cA])
  rw [hls]
  have hl : lv_has ls 5 [(0, va_rf (some this)), (1, .int p0), (2, .int p1), (3, .int p2)] := hl
  unfold f_X8_fired at hF
  show W p l e (ab_rm 2 0 0) s m _ below meth c s.heap [] 0 0 _ _
  refine ab_aload_n X dX8_fired_0 rfl (lv_at hl 0 rfl) ?_
  refine lv_iload_n X.1 X.2.1 dX8_fired_1 rfl (lv_at hl 1 rfl) ?_
  obtain ⟨a4, e5, hF⟩ := bind_out hF
  obtain ⟨x1, h2, e3, hF⟩ := bnd_out hF
  refine ab_callVa X S e5 (c_X8_runAt l D cA sz e3) rfl (by decide) mi_X8_runAt lm_X8_119 li_yX8_runAt ls_yX8_runAt (As := [.int p0]) (rest := []) rfl ⟨by decide, by decide⟩ ⟨by decide, by decide⟩ hl.1 rfl (by simp [ab_cat, ab_cI, ab_cJ, ab_cD, ab_cF]) dX8_fired_2 (fun H1 locs1 S => ?_)
  refine ab_astore (lv' := [(4, va_rf x1), (0, va_rf (some this)), (1, .int p0), (2, .int p1), (3, .int p2)]) X dX8_fired_5 hl (by decide) (by simp [ab_cat, ab_cI, ab_cJ, ab_cD, ab_cF]) (fun ls hl => ?_)
  refine ab_aload X dX8_fired_7 (lv_at hl 0 rfl) ?_
  refine ab_ifnull (tgt := 24) X dX8_fired_9 (by decide) (fun c6 => ?_) (fun c6 => ?_)
  · have hF := ab_pos c6 hF
    exact w_X8_fired_24 X hr  S (lv_sub hl [] rfl) hF
  · have hF := ab_neg c6 hF
    refine ab_aload X dX8_fired_12 (lv_at hl 0 rfl) ?_
    refine ab_getR X S hF fi_4_10 lf_X8_166 dX8_fired_14 (fun x7 hF => ?_)
    refine lv_iload_n X.1 X.2.1 dX8_fired_17 rfl (lv_at hl 3 rfl) ?_
    obtain ⟨a11, e12, hF⟩ := bind_out hF
    obtain ⟨x8, h9, e10, hF⟩ := bnd_out hF
    refine ab_callVi X S e12 (c_X0_hasFired l D cA sz e10) rfl (by decide) mi_X0_hasFired lm_X8_253 li_yX0_hasFired ls_yX0_hasFired (As := [.int p1]) (rest := []) rfl ⟨by decide, by decide⟩ ⟨by decide, by decide⟩ hl.1 rfl (by simp [ab_cat, ab_cI, ab_cJ, ab_cD, ab_cF]) dX8_fired_18 (fun H1 locs1 S => ?_)
    refine lv_if_ne (tgt := 28) X.1 X.2.1 dX8_fired_21 (by decide) (fun c13 => ?_) (fun c13 => ?_)
    · have hF := ab_pos c13 hF
      refine lv_iload_n X.1 X.2.1 dX8_fired_28 rfl (lv_at hl 4 rfl) ?_
      refine lv_if_ne (tgt := 44) X.1 X.2.1 dX8_fired_29 (by decide) (fun c14 => ?_) (fun c14 => ?_)
      · have hF := ab_pos c14 hF
        refine lv_iload_n X.1 X.2.1 dX8_fired_44 rfl (lv_at hl 4 rfl) ?_
        refine lv_iconst (v := 1) X.1 X.2.1 dX8_fired_45 (by decide) ?_
        refine lv_icmp_ne (tgt := 69) X.1 X.2.1 dX8_fired_46 (by decide) (fun c15 => ?_) (fun c15 => ?_)
        · have hF := ab_pos c15 hF
          refine lv_ldc2 (v := (9221120237041090560)) X.1 X.2.1 X.2.2.2.1 (X.2.2.2.2.1 _ ll_X8_190) dX8_fired_69 ?_
          exact w_X8_fired_72 X hr  S (lv_sub hl [] rfl) hF
        · have hF := ab_neg (fun q => q c15) hF
          refine ab_aload_n X dX8_fired_49 rfl (lv_at hl 1 rfl) ?_
          refine ab_getR X S hF fi_8_1 lf_X8_19 dX8_fired_50 (fun x16 hF => ?_)
          refine ab_aload X dX8_fired_53 (lv_at hl 0 rfl) ?_
          refine ab_getR X S hF fi_4_10 lf_X8_166 dX8_fired_55 (fun x17 hF => ?_)
          refine ab_getR X S hF fi_0_8 lf_X8_259 dX8_fired_58 (fun x18 hF => ?_)
          refine lv_iload_n X.1 X.2.1 dX8_fired_61 rfl (lv_at hl 3 rfl) ?_
          refine ab_aldD X S hF dX8_fired_62 (fun x19 hF => ?_)
          obtain ⟨a23, e24, hF⟩ := bind_out hF
          obtain ⟨x20, h21, e22, hF⟩ := bnd_out hF
          refine ab_callVl X S e24 (c_X7_bits l D cA sz e22) rfl (by decide) mi_X7_bits lm_X8_196 li_yX7_bits ls_yX7_bits (As := [.double x19]) (rest := []) rfl ⟨by decide, by decide⟩ ⟨by decide, by decide⟩ hl.1 rfl (by simp [ab_cat, ab_cI, ab_cJ, ab_cD, ab_cF]) dX8_fired_63 (fun H1 locs1 S => ?_)
          refine lv_goto (tgt := 72) X.1 X.2.1 dX8_fired_66 (by decide) ?_
          exact w_X8_fired_72 X hr  S (lv_sub hl [] rfl) hF
      · have hF := ab_neg (fun q => q c14) hF
        refine ab_aload X dX8_fired_32 (lv_at hl 0 rfl) ?_
        refine ab_getR X S hF fi_4_10 lf_X8_166 dX8_fired_34 (fun x25 hF => ?_)
        refine ab_getR X S hF fi_0_7 lf_X8_256 dX8_fired_37 (fun x26 hF => ?_)
        refine lv_iload_n X.1 X.2.1 dX8_fired_40 rfl (lv_at hl 3 rfl) ?_
        refine ab_aldI X S hF dX8_fired_41 (fun x27 hF => ?_)
        refine lv_i2l (v := x27.toInt64) X.1 X.2.1 dX8_fired_42 rfl ?_
        exact ab_lret X S hr hF dX8_fired_43
    · have hF := ab_neg (fun q => q c13) hF
      exact w_X8_fired_24 X hr  S (lv_sub hl [] rfl) hF
def f_X8_back_19   (h : Hp) : Option (Int32 × Hp) :=
  some ((-1), h)
set_option maxHeartbeats 4000000 in
set_option maxRecDepth 100000 in
theorem w_X8_back_19 {p : Program} {l : Launch} {e : Env} {s : State} {m : MethodId} {args : Array Value} {below : List Frame} {meth : Method} {c : Code} {D : va_G} {cA : Nat → ClassId} {sz : Nat} {rr : Int32} {hh : Hp}  (X : ab_X p s m args meth c cX8_back 5 RX8 D cA sz) (hr : meth.sig.returnType = (some .int))  {H : Heap} {locs : List Loc} {ls : Array Slot}  {h : Hp} (S : ab_H D cA sz h s H locs) (hl : lv_has ls 5 []) (hF : f_X8_back_19  h = some (rr, hh)) : W p l e (ab_rm 3 0 0) s m args below meth c H locs 0 0 (MQ below (ab_Q D cA sz (some (.int rr)) hh) args s 0 0 (fun q => sz ≤ q)) (F0 m 19 ls []) := by
  unfold f_X8_back_19 at hF
  refine lv_iconst (v := (-1)) X.1 X.2.1 dX8_back_19 (by decide) ?_
  exact ab_iret X S hr hF dX8_back_20
def f_X8_back (this : Nat) (p0 : Int32) (p1 : Int32) (h : Hp) : Option (Int32 × Hp) :=
  (ab_ck h (some this) (8, 0)).bind fun a4 =>
  bnd (f_X8_runAt a4 p0 h) fun x1 h2 =>
  if x1 = none then
    f_X8_back_19 h2
  else
    if p1 < 0 then
      f_X8_back_19 h2
    else
      if p1 < 4 then
        (getR h2 (some this) 8 8).bind fun x9 =>
        (aldR h2 x9 15 p1).bind fun x10 =>
        if ¬ x10 = none then
          (ab_ck h2 x1 (4, 0)).bind fun a15 =>
          bnd (f_X4_copy a15 x10 h2) fun _ h13 =>
          some (1, h13)
        else
          some ((-2), h2)
      else
        f_X8_back_19 h2
theorem mi_X8_back : ab_MI yX8_back cX8_back 5 (some .int) 2 := ⟨lc_yX8_back, lz_RX8, by decide, by decide, by decide +kernel⟩
set_option maxHeartbeats 4000000 in
set_option maxRecDepth 100000 in
theorem c_X8_back (l : Launch) (D : va_G) (cA : Nat → ClassId) (sz : Nat) {this : Nat} {p0 : Int32} {p1 : Int32} {h hh : Hp} {rr : Int32} (hF : f_X8_back this p0 p1 h = some (rr, hh)) : ab_C l D cA sz yX8_back cX8_back 5 (some .int) 3 0 0 [.ref this, .int p0, .int p1] h (some (.int rr)) hh := by
  refine Met.ofW (cc := cX8_back) (maxL := 5) (ret := (some .int)) (by decide) rfl ?_
  intro p e s m args below meth c s₁ B hml hv
  obtain ⟨rfl, hT, hR⟩ := hv
  have X : ab_X p s m _ meth c cX8_back 5 RX8 D cA sz := (ab_enter B hml hT hR).1
  have S := (ab_enter B hml hT hR).2
  have hr := B.returns
  obtain ⟨ls, hls, hl⟩ := ab_entry m [.ref this, .int p0, .int p1] 5 (lv := [(0, .ref this), (1, .int p0), (2, .int p1)]) (by simp [lg_sl, ab_cat, ab_cI, ab_cJ, ab_cD, ab_cF, ab_cA]) (by simp [lv_args, ab_cat, ab_cI, ab_cJ, ab_cD, ab_cF, ab_cA])
  rw [hls]
  have hl : lv_has ls 5 [(0, va_rf (some this)), (1, .int p0), (2, .int p1)] := hl
  unfold f_X8_back at hF
  show W p l e (ab_rm 3 0 0) s m _ below meth c s.heap [] 0 0 _ _
  refine ab_aload_n X dX8_back_0 rfl (lv_at hl 0 rfl) ?_
  refine lv_iload_n X.1 X.2.1 dX8_back_1 rfl (lv_at hl 1 rfl) ?_
  obtain ⟨a4, e5, hF⟩ := bind_out hF
  obtain ⟨x1, h2, e3, hF⟩ := bnd_out hF
  refine ab_callVa X S e5 (c_X8_runAt l D cA sz e3) rfl (by decide) mi_X8_runAt lm_X8_119 li_yX8_runAt ls_yX8_runAt (As := [.int p0]) (rest := []) rfl ⟨by decide, by decide⟩ ⟨by decide, by decide⟩ hl.1 rfl (by simp [ab_cat, ab_cI, ab_cJ, ab_cD, ab_cF]) dX8_back_2 (fun H1 locs1 S => ?_)
  refine ab_astore_n (i := 3) (lv' := [(3, va_rf x1), (0, va_rf (some this)), (1, .int p0), (2, .int p1)]) X dX8_back_5 rfl hl (by decide) (by simp [ab_cat, ab_cI, ab_cJ, ab_cD, ab_cF]) (fun ls hl => ?_)
  refine ab_aload_n X dX8_back_6 rfl (lv_at hl 0 rfl) ?_
  refine ab_ifnull (tgt := 19) X dX8_back_7 (by decide) (fun c6 => ?_) (fun c6 => ?_)
  · have hF := ab_pos c6 hF
    exact w_X8_back_19 X hr  S (lv_sub hl [] rfl) hF
  · have hF := ab_neg c6 hF
    refine lv_iload_n X.1 X.2.1 dX8_back_10 rfl (lv_at hl 3 rfl) ?_
    refine lv_if_lt (tgt := 19) X.1 X.2.1 dX8_back_11 (by decide) (fun c7 => ?_) (fun c7 => ?_)
    · have hF := ab_pos c7 hF
      exact w_X8_back_19 X hr  S (lv_sub hl [] rfl) hF
    · have hF := ab_neg c7 hF
      refine lv_iload_n X.1 X.2.1 dX8_back_14 rfl (lv_at hl 3 rfl) ?_
      refine lv_iconst (v := 4) X.1 X.2.1 dX8_back_15 (by decide) ?_
      refine lv_icmp_lt (tgt := 21) X.1 X.2.1 dX8_back_16 (by decide) (fun c8 => ?_) (fun c8 => ?_)
      · have hF := ab_pos c8 hF
        refine ab_aload_n X dX8_back_21 rfl (lv_at hl 1 rfl) ?_
        refine ab_getR X S hF fi_8_8 lf_X8_41 dX8_back_22 (fun x9 hF => ?_)
        refine lv_iload_n X.1 X.2.1 dX8_back_25 rfl (lv_at hl 3 rfl) ?_
        refine ab_aldR X S hF rfl (by decide) dX8_back_26 (fun x10 hF => ?_)
        refine ab_astore (lv' := [(4, va_rf x10), (3, va_rf x1), (0, va_rf (some this)), (1, .int p0), (2, .int p1)]) X dX8_back_27 hl (by decide) (by simp [ab_cat, ab_cI, ab_cJ, ab_cD, ab_cF]) (fun ls hl => ?_)
        refine ab_aload X dX8_back_29 (lv_at hl 0 rfl) ?_
        refine ab_ifnonnull (tgt := 37) X dX8_back_31 (by decide) (fun c11 => ?_) (fun c11 => ?_)
        · have hF := ab_pos c11 hF
          refine ab_aload_n X dX8_back_37 rfl (lv_at hl 1 rfl) ?_
          refine ab_aload X dX8_back_38 (lv_at hl 0 rfl) ?_
          obtain ⟨a15, e16, hF⟩ := bind_out hF
          obtain ⟨x12, h13, e14, hF⟩ := bnd_out hF
          refine ab_callVv X S e16 (c_X4_copy l D cA sz e14) rfl (by decide) mi_X4_copy lm_X8_186 li_yX4_copy ls_yX4_copy (As := [va_rf x10]) (rest := []) rfl ⟨by decide, by decide⟩ ⟨by decide, by decide⟩ hl.1 rfl (by simp [ab_cat, ab_cI, ab_cJ, ab_cD, ab_cF]) dX8_back_40 (fun H1 locs1 S => ?_)
          refine lv_iconst (v := 1) X.1 X.2.1 dX8_back_43 (by decide) ?_
          exact ab_iret X S hr hF dX8_back_44
        · have hF := ab_neg c11 hF
          refine lv_bipush (v := (-2)) X.1 X.2.1 dX8_back_34 (by decide) ?_
          exact ab_iret X S hr hF dX8_back_36
      · have hF := ab_neg c8 hF
        exact w_X8_back_19 X hr  S (lv_sub hl [] rfl) hF
