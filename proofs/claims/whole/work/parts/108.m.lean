def f_X9_law_20   (h : Hp) : Option (Int32 × Hp) :=
  some ((-1), h)
set_option maxHeartbeats 4000000 in
set_option maxRecDepth 100000 in
theorem w_X9_law_20 {p : Program} {l : Launch} {e : Env} {s : State} {m : MethodId} {args : Array Value} {below : List Frame} {meth : Method} {c : Code} {D : va_G} {cA : Nat → ClassId} {sz : Nat} {rr : Int32} {hh : Hp}  (X : ab_X p s m args meth c cX9_law 3 RX9 D cA sz) (hr : meth.sig.returnType = (some .int))  {H : Heap} {locs : List Loc} {ls : Array Slot}  {h : Hp} (S : ab_H D cA sz h s H locs) (hl : lv_has ls 3 []) (hF : f_X9_law_20  h = some (rr, hh)) : W p l e (ab_rm 1 0 0) s m args below meth c H locs 0 0 (MQ below (ab_Q D cA sz (some (.int rr)) hh) args s 0 0 (fun q => sz ≤ q)) (F0 m 20 ls []) := by
  unfold f_X9_law_20 at hF
  refine lv_iconst (v := (-1)) X.1 X.2.1 dX9_law_20 (by decide) ?_
  exact ab_iret X S hr hF dX9_law_21
def f_X9_law (this : Nat) (p0 : Int32) (p1 : Int32) (h : Hp) : Option (Int32 × Hp) :=
  bnd (f_X9_in p0 1 6 h) fun x1 h2 =>
  if x1 = 0 then
    f_X9_law_20 h2
  else
    if p1 < 0 then
      f_X9_law_20 h2
    else
      if (p1 >>> (p0 &&& 31)) = 0 then
        (getI h2 (some this) 9 9).bind fun x7 =>
        if ¬ x7 = 8 then
          (getR h2 (some this) 9 0).bind fun x9 =>
          (getI h2 (some this) 9 9).bind fun x10 =>
          (astI h2 x9 x10 p0).bind fun h11 =>
          (getR h11 (some this) 9 1).bind fun x12 =>
          (getI h11 (some this) 9 9).bind fun x13 =>
          (astI h11 x12 x13 p1).bind fun h14 =>
          (getI h14 (some this) 9 9).bind fun x15 =>
          (putI h14 (some this) 9 9 (x15 + 1)).bind fun h16 =>
          (getI h16 (some this) 9 9).bind fun x17 =>
          some (x17 - 1, h16)
        else
          some ((-3), h2)
      else
        f_X9_law_20 h2
theorem mi_X9_law : ab_MI yX9_law cX9_law 3 (some .int) 2 := ⟨lc_yX9_law, lz_RX9, by decide, by decide, by decide +kernel⟩
set_option maxHeartbeats 4000000 in
set_option maxRecDepth 100000 in
theorem c_X9_law (l : Launch) (D : va_G) (cA : Nat → ClassId) (sz : Nat) {this : Nat} {p0 : Int32} {p1 : Int32} {h hh : Hp} {rr : Int32} (hF : f_X9_law this p0 p1 h = some (rr, hh)) : ab_C l D cA sz yX9_law cX9_law 3 (some .int) 1 0 0 [.ref this, .int p0, .int p1] h (some (.int rr)) hh := by
  refine Met.ofW (cc := cX9_law) (maxL := 3) (ret := (some .int)) (by decide) rfl ?_
  intro p e s m args below meth c s₁ B hml hv
  obtain ⟨rfl, hT, hR⟩ := hv
  have X : ab_X p s m _ meth c cX9_law 3 RX9 D cA sz := (ab_enter B hml hT hR).1
  have S := (ab_enter B hml hT hR).2
  have hr := B.returns
  obtain ⟨ls, hls, hl⟩ := ab_entry m [.ref this, .int p0, .int p1] 3 (lv := [(0, .ref this), (1, .int p0), (2, .int p1)]) (by simp [lg_sl, ab_cat, ab_cI, ab_cJ, ab_cD, ab_cF, ab_cA]) (by simp [lv_args, ab_cat, ab_cI, ab_cJ, ab_cD, ab_cF, ab_cA])
  rw [hls]
  have hl : lv_has ls 3 [(0, va_rf (some this)), (1, .int p0), (2, .int p1)] := hl
  unfold f_X9_law at hF
  show W p l e (ab_rm 1 0 0) s m _ below meth c s.heap [] 0 0 _ _
  refine lv_iload_n X.1 X.2.1 dX9_law_0 rfl (lv_at hl 1 rfl) ?_
  refine lv_iconst (v := 1) X.1 X.2.1 dX9_law_1 (by decide) ?_
  refine lv_bipush (v := 6) X.1 X.2.1 dX9_law_2 (by decide) ?_
  obtain ⟨x1, h2, e3, hF⟩ := bnd_out hF
  refine ab_callSi X S (c_X9_in l D cA sz e3) mi_X9_in lm_X9_343 lt_yX9_in (As := [.int p0, .int 1, .int 6]) (rest := []) rfl ⟨by decide, by decide⟩ ⟨(by decide), (by decide)⟩ hl.1 rfl (by simp [ab_cat, ab_cI, ab_cJ, ab_cD, ab_cF]) dX9_law_4 (fun H1 locs1 S => ?_)
  refine lv_if_eq (tgt := 20) X.1 X.2.1 dX9_law_7 (by decide) (fun c4 => ?_) (fun c4 => ?_)
  · have hF := ab_pos c4 hF
    exact w_X9_law_20 X hr  S (lv_sub hl [] rfl) hF
  · have hF := ab_neg c4 hF
    refine lv_iload_n X.1 X.2.1 dX9_law_10 rfl (lv_at hl 2 rfl) ?_
    refine lv_if_lt (tgt := 20) X.1 X.2.1 dX9_law_11 (by decide) (fun c5 => ?_) (fun c5 => ?_)
    · have hF := ab_pos c5 hF
      exact w_X9_law_20 X hr  S (lv_sub hl [] rfl) hF
    · have hF := ab_neg c5 hF
      refine lv_iload_n X.1 X.2.1 dX9_law_14 rfl (lv_at hl 2 rfl) ?_
      refine lv_iload_n X.1 X.2.1 dX9_law_15 rfl (lv_at hl 1 rfl) ?_
      refine lv_ishr X.1 X.2.1 dX9_law_16 ?_
      refine lv_if_eq (tgt := 22) X.1 X.2.1 dX9_law_17 (by decide) (fun c6 => ?_) (fun c6 => ?_)
      · have hF := ab_pos c6 hF
        refine ab_aload_n X dX9_law_22 rfl (lv_at hl 0 rfl) ?_
        refine ab_getI X S hF fi_9_9 lf_X9_347 dX9_law_23 (fun x7 hF => ?_)
        refine lv_bipush (v := 8) X.1 X.2.1 dX9_law_26 (by decide) ?_
        refine lv_icmp_ne (tgt := 34) X.1 X.2.1 dX9_law_28 (by decide) (fun c8 => ?_) (fun c8 => ?_)
        · have hF := ab_pos c8 hF
          refine ab_aload_n X dX9_law_34 rfl (lv_at hl 0 rfl) ?_
          refine ab_getR X S hF fi_9_0 lf_X9_9 dX9_law_35 (fun x9 hF => ?_)
          refine ab_aload_n X dX9_law_38 rfl (lv_at hl 0 rfl) ?_
          refine ab_getI X S hF fi_9_9 lf_X9_347 dX9_law_39 (fun x10 hF => ?_)
          refine lv_iload_n X.1 X.2.1 dX9_law_42 rfl (lv_at hl 1 rfl) ?_
          refine ab_astI X S hF dX9_law_43 (fun h11 H1 locs1 hF S => ?_)
          refine ab_aload_n X dX9_law_44 rfl (lv_at hl 0 rfl) ?_
          refine ab_getR X S hF fi_9_1 lf_X9_15 dX9_law_45 (fun x12 hF => ?_)
          refine ab_aload_n X dX9_law_48 rfl (lv_at hl 0 rfl) ?_
          refine ab_getI X S hF fi_9_9 lf_X9_347 dX9_law_49 (fun x13 hF => ?_)
          refine lv_iload_n X.1 X.2.1 dX9_law_52 rfl (lv_at hl 2 rfl) ?_
          refine ab_astI X S hF dX9_law_53 (fun h14 H1 locs1 hF S => ?_)
          refine ab_aload_n X dX9_law_54 rfl (lv_at hl 0 rfl) ?_
          refine lv_dup X.1 X.2.1 dX9_law_55 (by simp [ab_cat, ab_cI, ab_cJ, ab_cD, ab_cF]) ?_
          refine ab_getI X S hF fi_9_9 lf_X9_347 dX9_law_56 (fun x15 hF => ?_)
          refine lv_iconst (v := 1) X.1 X.2.1 dX9_law_59 (by decide) ?_
          refine lv_iadd X.1 X.2.1 dX9_law_60 ?_
          refine ab_putI X S hF fi_9_9 ci_9 (Or.inl rfl) rfl lf_X9_347 dX9_law_61 (fun h16 H1 locs1 hF S => ?_)
          refine ab_aload_n X dX9_law_64 rfl (lv_at hl 0 rfl) ?_
          refine ab_getI X S hF fi_9_9 lf_X9_347 dX9_law_65 (fun x17 hF => ?_)
          refine lv_iconst (v := 1) X.1 X.2.1 dX9_law_68 (by decide) ?_
          refine lv_isub X.1 X.2.1 dX9_law_69 ?_
          exact ab_iret X S hr hF dX9_law_70
        · have hF := ab_neg (fun q => q c8) hF
          refine lv_bipush (v := (-3)) X.1 X.2.1 dX9_law_31 (by decide) ?_
          exact ab_iret X S hr hF dX9_law_33
      · have hF := ab_neg c6 hF
        exact w_X9_law_20 X hr  S (lv_sub hl [] rfl) hF
def f_X9_comesNode (this : Nat) (p0 : Int32) (p1 : Int32) (p2 : Int32) (p3 : Int32) (p4 : Int32) (h : Hp) : Option (Int32 × Hp) :=
  (getR h (some this) 9 2).bind fun x1 =>
  (aldI h x1 11 p0).bind fun x2 =>
  if ¬ x2 = 48 then
    (getR h (some this) 9 2).bind fun x4 =>
    (aldI h x4 11 p0).bind fun x5 =>
    (getR h (some this) 9 4).bind fun x6 =>
    (astI h x6 ((48 * p0) + x5) p1).bind fun h7 =>
    (getR h7 (some this) 9 5).bind fun x8 =>
    (astI h7 x8 ((48 * p0) + x5) p2).bind fun h9 =>
    (getR h9 (some this) 9 6).bind fun x10 =>
    (astI h9 x10 ((48 * p0) + x5) p3).bind fun h11 =>
    (getR h11 (some this) 9 7).bind fun x12 =>
    (astI h11 x12 ((48 * p0) + x5) p4).bind fun h13 =>
    (getR h13 (some this) 9 2).bind fun x14 =>
    (aldI h13 x14 11 p0).bind fun x15 =>
    (astI h13 x14 p0 (x15 + 1)).bind fun h16 =>
    (getR h16 (some this) 9 2).bind fun x17 =>
    (aldI h16 x17 11 p0).bind fun x18 =>
    some (x18 - 1, h16)
  else
    some ((-3), h)
theorem mi_X9_comesNode : ab_MI yX9_comesNode cX9_comesNode 7 (some .int) 5 := ⟨lc_yX9_comesNode, lz_RX9, by decide, by decide, by decide +kernel⟩
set_option maxHeartbeats 4000000 in
set_option maxRecDepth 100000 in
theorem c_X9_comesNode (l : Launch) (D : va_G) (cA : Nat → ClassId) (sz : Nat) {this : Nat} {p0 : Int32} {p1 : Int32} {p2 : Int32} {p3 : Int32} {p4 : Int32} {h hh : Hp} {rr : Int32} (hF : f_X9_comesNode this p0 p1 p2 p3 p4 h = some (rr, hh)) : ab_C l D cA sz yX9_comesNode cX9_comesNode 7 (some .int) 0 0 0 [.ref this, .int p0, .int p1, .int p2, .int p3, .int p4] h (some (.int rr)) hh := by
  refine Met.ofW (cc := cX9_comesNode) (maxL := 7) (ret := (some .int)) (by decide) rfl ?_
  intro p e s m args below meth c s₁ B hml hv
  obtain ⟨rfl, hT, hR⟩ := hv
  have X : ab_X p s m _ meth c cX9_comesNode 7 RX9 D cA sz := (ab_enter B hml hT hR).1
  have S := (ab_enter B hml hT hR).2
  have hr := B.returns
  obtain ⟨ls, hls, hl⟩ := ab_entry m [.ref this, .int p0, .int p1, .int p2, .int p3, .int p4] 7 (lv := [(0, .ref this), (1, .int p0), (2, .int p1), (3, .int p2), (4, .int p3), (5, .int p4)]) (by simp [lg_sl, ab_cat, ab_cI, ab_cJ, ab_cD, ab_cF, ab_cA]) (by simp [lv_args, ab_cat, ab_cI, ab_cJ, ab_cD, ab_cF, ab_cA])
  rw [hls]
  have hl : lv_has ls 7 [(0, va_rf (some this)), (1, .int p0), (2, .int p1), (3, .int p2), (4, .int p3), (5, .int p4)] := hl
  unfold f_X9_comesNode at hF
  show W p l e (ab_rm 0 0 0) s m _ below meth c s.heap [] 0 0 _ _
  refine ab_aload_n X dX9_comesNode_0 rfl (lv_at hl 0 rfl) ?_
  refine ab_getR X S hF fi_9_2 lf_X9_18 dX9_comesNode_1 (fun x1 hF => ?_)
  refine lv_iload_n X.1 X.2.1 dX9_comesNode_4 rfl (lv_at hl 1 rfl) ?_
  refine ab_aldI X S hF dX9_comesNode_5 (fun x2 hF => ?_)
  refine lv_bipush (v := 48) X.1 X.2.1 dX9_comesNode_6 (by decide) ?_
  refine lv_icmp_ne (tgt := 14) X.1 X.2.1 dX9_comesNode_8 (by decide) (fun c3 => ?_) (fun c3 => ?_)
  · have hF := ab_pos c3 hF
    refine lv_bipush (v := 48) X.1 X.2.1 dX9_comesNode_14 (by decide) ?_
    refine lv_iload_n X.1 X.2.1 dX9_comesNode_16 rfl (lv_at hl 1 rfl) ?_
    refine lv_imul X.1 X.2.1 dX9_comesNode_17 ?_
    refine ab_aload_n X dX9_comesNode_18 rfl (lv_at hl 0 rfl) ?_
    refine ab_getR X S hF fi_9_2 lf_X9_18 dX9_comesNode_19 (fun x4 hF => ?_)
    refine lv_iload_n X.1 X.2.1 dX9_comesNode_22 rfl (lv_at hl 1 rfl) ?_
    refine ab_aldI X S hF dX9_comesNode_23 (fun x5 hF => ?_)
    refine lv_iadd X.1 X.2.1 dX9_comesNode_24 ?_
    refine lv_istore (lv' := [(6, .int ((48 * p0) + x5)), (0, va_rf (some this)), (1, .int p0), (2, .int p1), (3, .int p2), (4, .int p3), (5, .int p4)]) X.1 X.2.1 dX9_comesNode_25 hl (by decide) (by simp [ab_cat, ab_cI, ab_cJ, ab_cD, ab_cF]) (fun ls hl => ?_)
    refine ab_aload_n X dX9_comesNode_27 rfl (lv_at hl 1 rfl) ?_
    refine ab_getR X S hF fi_9_4 lf_X9_24 dX9_comesNode_28 (fun x6 hF => ?_)
    refine lv_iload X.1 X.2.1 dX9_comesNode_31 (lv_at hl 0 rfl) ?_
    refine lv_iload_n X.1 X.2.1 dX9_comesNode_33 rfl (lv_at hl 3 rfl) ?_
    refine ab_astI X S hF dX9_comesNode_34 (fun h7 H1 locs1 hF S => ?_)
    refine ab_aload_n X dX9_comesNode_35 rfl (lv_at hl 1 rfl) ?_
    refine ab_getR X S hF fi_9_5 lf_X9_27 dX9_comesNode_36 (fun x8 hF => ?_)
    refine lv_iload X.1 X.2.1 dX9_comesNode_39 (lv_at hl 0 rfl) ?_
    refine lv_iload_n X.1 X.2.1 dX9_comesNode_41 rfl (lv_at hl 4 rfl) ?_
    refine ab_astI X S hF dX9_comesNode_42 (fun h9 H1 locs1 hF S => ?_)
    refine ab_aload_n X dX9_comesNode_43 rfl (lv_at hl 1 rfl) ?_
    refine ab_getR X S hF fi_9_6 lf_X9_30 dX9_comesNode_44 (fun x10 hF => ?_)
    refine lv_iload X.1 X.2.1 dX9_comesNode_47 (lv_at hl 0 rfl) ?_
    refine lv_iload X.1 X.2.1 dX9_comesNode_49 (lv_at hl 5 rfl) ?_
    refine ab_astI X S hF dX9_comesNode_51 (fun h11 H1 locs1 hF S => ?_)
    refine ab_aload_n X dX9_comesNode_52 rfl (lv_at hl 1 rfl) ?_
    refine ab_getR X S hF fi_9_7 lf_X9_33 dX9_comesNode_53 (fun x12 hF => ?_)
    refine lv_iload X.1 X.2.1 dX9_comesNode_56 (lv_at hl 0 rfl) ?_
    refine lv_iload X.1 X.2.1 dX9_comesNode_58 (lv_at hl 6 rfl) ?_
    refine ab_astI X S hF dX9_comesNode_60 (fun h13 H1 locs1 hF S => ?_)
    refine ab_aload_n X dX9_comesNode_61 rfl (lv_at hl 1 rfl) ?_
    refine ab_getR X S hF fi_9_2 lf_X9_18 dX9_comesNode_62 (fun x14 hF => ?_)
    refine lv_iload_n X.1 X.2.1 dX9_comesNode_65 rfl (lv_at hl 2 rfl) ?_
    refine lv_dup2_11 X.1 X.2.1 dX9_comesNode_66 (by simp [ab_cat, ab_cI, ab_cJ, ab_cD, ab_cF]) (by simp [ab_cat, ab_cI, ab_cJ, ab_cD, ab_cF]) ?_
    refine ab_aldI X S hF dX9_comesNode_67 (fun x15 hF => ?_)
    refine lv_iconst (v := 1) X.1 X.2.1 dX9_comesNode_68 (by decide) ?_
    refine lv_iadd X.1 X.2.1 dX9_comesNode_69 ?_
    refine ab_astI X S hF dX9_comesNode_70 (fun h16 H1 locs1 hF S => ?_)
    refine ab_aload_n X dX9_comesNode_71 rfl (lv_at hl 1 rfl) ?_
    refine ab_getR X S hF fi_9_2 lf_X9_18 dX9_comesNode_72 (fun x17 hF => ?_)
    refine lv_iload_n X.1 X.2.1 dX9_comesNode_75 rfl (lv_at hl 2 rfl) ?_
    refine ab_aldI X S hF dX9_comesNode_76 (fun x18 hF => ?_)
    refine lv_iconst (v := 1) X.1 X.2.1 dX9_comesNode_77 (by decide) ?_
    refine lv_isub X.1 X.2.1 dX9_comesNode_78 ?_
    exact ab_iret X S hr hF dX9_comesNode_79
  · have hF := ab_neg (fun q => q c3) hF
    refine lv_bipush (v := (-3)) X.1 X.2.1 dX9_comesNode_11 (by decide) ?_
    exact ab_iret X S hr hF dX9_comesNode_13
def f_X9_constant_25   (h : Hp) : Option (Int32 × Hp) :=
  some ((-1), h)
set_option maxHeartbeats 4000000 in
set_option maxRecDepth 100000 in
theorem w_X9_constant_25 {p : Program} {l : Launch} {e : Env} {s : State} {m : MethodId} {args : Array Value} {below : List Frame} {meth : Method} {c : Code} {D : va_G} {cA : Nat → ClassId} {sz : Nat} {rr : Int32} {hh : Hp}  (X : ab_X p s m args meth c cX9_constant 6 RX9 D cA sz) (hr : meth.sig.returnType = (some .int))  {H : Heap} {locs : List Loc} {ls : Array Slot}  {h : Hp} (S : ab_H D cA sz h s H locs) (hl : lv_has ls 6 []) (hF : f_X9_constant_25  h = some (rr, hh)) : W p l e (ab_rm 1 0 0) s m args below meth c H locs 0 0 (MQ below (ab_Q D cA sz (some (.int rr)) hh) args s 0 0 (fun q => sz ≤ q)) (F0 m 25 ls []) := by
  unfold f_X9_constant_25 at hF
  refine lv_iconst (v := (-1)) X.1 X.2.1 dX9_constant_25 (by decide) ?_
  exact ab_iret X S hr hF dX9_constant_26
def f_X9_constant_62  (v5 : Int32) (h : Hp) : Option (Int32 × Hp) :=
  some (v5, h)
set_option maxHeartbeats 4000000 in
set_option maxRecDepth 100000 in
theorem w_X9_constant_62 {p : Program} {l : Launch} {e : Env} {s : State} {m : MethodId} {args : Array Value} {below : List Frame} {meth : Method} {c : Code} {D : va_G} {cA : Nat → ClassId} {sz : Nat} {rr : Int32} {hh : Hp}  (X : ab_X p s m args meth c cX9_constant 6 RX9 D cA sz) (hr : meth.sig.returnType = (some .int))  {H : Heap} {locs : List Loc} {ls : Array Slot} {v5 : Int32} {h : Hp} (S : ab_H D cA sz h s H locs) (hl : lv_has ls 6 [(5, .int v5)]) (hF : f_X9_constant_62 v5 h = some (rr, hh)) : W p l e (ab_rm 1 0 0) s m args below meth c H locs 0 0 (MQ below (ab_Q D cA sz (some (.int rr)) hh) args s 0 0 (fun q => sz ≤ q)) (F0 m 62 ls []) := by
  unfold f_X9_constant_62 at hF
  refine lv_iload X.1 X.2.1 dX9_constant_62 (lv_at hl 0 rfl) ?_
  exact ab_iret X S hr hF dX9_constant_64
def f_X9_constant (this : Nat) (p0 : Int32) (p1 : Int64) (p2 : Int32) (h : Hp) : Option (Int32 × Hp) :=
  (getI h (some this) 9 9).bind fun x1 =>
  bnd (f_X9_in p0 0 (x1 - 1) h) fun x2 h3 =>
  if x2 = 0 then
    f_X9_constant_25 h3
  else
    bnd (f_X9_in p2 0 30 h3) fun x6 h7 =>
    if ¬ x6 = 0 then
      (ab_ck h7 (some this) (9, 0)).bind fun a13 =>
      bnd (f_X9_comesNode a13 p0 13 0 0 0 h7) fun x10 h11 =>
      if x10 < 0 then
        f_X9_constant_62 x10 h11
      else
        (getR h11 (some this) 9 8).bind fun x16 =>
        bnd (f_X9_number p1 p2 h11) fun x17 h18 =>
        (astD h18 x16 ((48 * p0) + x10) x17).bind fun h20 =>
        f_X9_constant_62 x10 h20
    else
      f_X9_constant_25 h7
theorem mi_X9_constant : ab_MI yX9_constant cX9_constant 6 (some .int) 3 := ⟨lc_yX9_constant, lz_RX9, by decide, by decide, by decide +kernel⟩
set_option maxHeartbeats 4000000 in
set_option maxRecDepth 100000 in
theorem c_X9_constant (l : Launch) (D : va_G) (cA : Nat → ClassId) (sz : Nat) {this : Nat} {p0 : Int32} {p1 : Int64} {p2 : Int32} {h hh : Hp} {rr : Int32} (hF : f_X9_constant this p0 p1 p2 h = some (rr, hh)) : ab_C l D cA sz yX9_constant cX9_constant 6 (some .int) 1 0 0 [.ref this, .int p0, .long p1, .int p2] h (some (.int rr)) hh := by
  refine Met.ofW (cc := cX9_constant) (maxL := 6) (ret := (some .int)) (by decide) rfl ?_
  intro p e s m args below meth c s₁ B hml hv
  obtain ⟨rfl, hT, hR⟩ := hv
  have X : ab_X p s m _ meth c cX9_constant 6 RX9 D cA sz := (ab_enter B hml hT hR).1
  have S := (ab_enter B hml hT hR).2
  have hr := B.returns
  obtain ⟨ls, hls, hl⟩ := ab_entry m [.ref this, .int p0, .long p1, .int p2] 6 (lv := [(0, .ref this), (1, .int p0), (2, .long p1), (4, .int p2)]) (by simp [lg_sl, ab_cat, ab_cI, ab_cJ, ab_cD, ab_cF, ab_cA]) (by simp [lv_args, ab_cat, ab_cI, ab_cJ, ab_cD, ab_cF, ab_cA])
  rw [hls]
  have hl : lv_has ls 6 [(0, va_rf (some this)), (1, .int p0), (2, .long p1), (4, .int p2)] := hl
  unfold f_X9_constant at hF
  show W p l e (ab_rm 1 0 0) s m _ below meth c s.heap [] 0 0 _ _
  refine lv_iload_n X.1 X.2.1 dX9_constant_0 rfl (lv_at hl 1 rfl) ?_
  refine lv_iconst (v := 0) X.1 X.2.1 dX9_constant_1 (by decide) ?_
  refine ab_aload_n X dX9_constant_2 rfl (lv_at hl 0 rfl) ?_
  refine ab_getI X S hF fi_9_9 lf_X9_347 dX9_constant_3 (fun x1 hF => ?_)
  refine lv_iconst (v := 1) X.1 X.2.1 dX9_constant_6 (by decide) ?_
  refine lv_isub X.1 X.2.1 dX9_constant_7 ?_
  obtain ⟨x2, h3, e4, hF⟩ := bnd_out hF
  refine ab_callSi X S (c_X9_in l D cA sz e4) mi_X9_in lm_X9_343 lt_yX9_in (As := [.int p0, .int 0, .int (x1 - 1)]) (rest := []) rfl ⟨by decide, by decide⟩ ⟨(by decide), (by decide)⟩ hl.1 rfl (by simp [ab_cat, ab_cI, ab_cJ, ab_cD, ab_cF]) dX9_constant_8 (fun H1 locs1 S => ?_)
  refine lv_if_eq (tgt := 25) X.1 X.2.1 dX9_constant_11 (by decide) (fun c5 => ?_) (fun c5 => ?_)
  · have hF := ab_pos c5 hF
    exact w_X9_constant_25 X hr  S (lv_sub hl [] rfl) hF
  · have hF := ab_neg c5 hF
    refine lv_iload X.1 X.2.1 dX9_constant_14 (lv_at hl 3 rfl) ?_
    refine lv_iconst (v := 0) X.1 X.2.1 dX9_constant_16 (by decide) ?_
    refine lv_bipush (v := 30) X.1 X.2.1 dX9_constant_17 (by decide) ?_
    obtain ⟨x6, h7, e8, hF⟩ := bnd_out hF
    refine ab_callSi X S (c_X9_in l D cA sz e8) mi_X9_in lm_X9_343 lt_yX9_in (As := [.int p2, .int 0, .int 30]) (rest := []) rfl ⟨by decide, by decide⟩ ⟨(by decide), (by decide)⟩ hl.1 rfl (by simp [ab_cat, ab_cI, ab_cJ, ab_cD, ab_cF]) dX9_constant_19 (fun H1 locs1 S => ?_)
    refine lv_if_ne (tgt := 27) X.1 X.2.1 dX9_constant_22 (by decide) (fun c9 => ?_) (fun c9 => ?_)
    · have hF := ab_pos c9 hF
      refine ab_aload_n X dX9_constant_27 rfl (lv_at hl 0 rfl) ?_
      refine lv_iload_n X.1 X.2.1 dX9_constant_28 rfl (lv_at hl 1 rfl) ?_
      refine lv_bipush (v := 13) X.1 X.2.1 dX9_constant_29 (by decide) ?_
      refine lv_iconst (v := 0) X.1 X.2.1 dX9_constant_31 (by decide) ?_
      refine lv_iconst (v := 0) X.1 X.2.1 dX9_constant_32 (by decide) ?_
      refine lv_iconst (v := 0) X.1 X.2.1 dX9_constant_33 (by decide) ?_
      obtain ⟨a13, e14, hF⟩ := bind_out hF
      obtain ⟨x10, h11, e12, hF⟩ := bnd_out hF
      refine ab_callVi X S e14 (c_X9_comesNode l D cA sz e12) rfl (by decide) mi_X9_comesNode lm_X9_350 li_yX9_comesNode ls_yX9_comesNode (As := [.int p0, .int 13, .int 0, .int 0, .int 0]) (rest := []) rfl ⟨by decide, by decide⟩ ⟨(by decide), (by decide)⟩ hl.1 rfl (by simp [ab_cat, ab_cI, ab_cJ, ab_cD, ab_cF]) dX9_constant_34 (fun H1 locs1 S => ?_)
      refine lv_istore (lv' := [(5, .int x10), (0, va_rf (some this)), (1, .int p0), (2, .long p1), (4, .int p2)]) X.1 X.2.1 dX9_constant_37 hl (by decide) (by simp [ab_cat, ab_cI, ab_cJ, ab_cD, ab_cF]) (fun ls hl => ?_)
      refine lv_iload X.1 X.2.1 dX9_constant_39 (lv_at hl 0 rfl) ?_
      refine lv_if_lt (tgt := 62) X.1 X.2.1 dX9_constant_41 (by decide) (fun c15 => ?_) (fun c15 => ?_)
      · have hF := ab_pos c15 hF
        exact w_X9_constant_62 X hr  S (lv_sub hl [0] rfl) hF
      · have hF := ab_neg c15 hF
        refine ab_aload_n X dX9_constant_44 rfl (lv_at hl 1 rfl) ?_
        refine ab_getR X S hF fi_9_8 lf_X9_36 dX9_constant_45 (fun x16 hF => ?_)
        refine lv_bipush (v := 48) X.1 X.2.1 dX9_constant_48 (by decide) ?_
        refine lv_iload_n X.1 X.2.1 dX9_constant_50 rfl (lv_at hl 2 rfl) ?_
        refine lv_imul X.1 X.2.1 dX9_constant_51 ?_
        refine lv_iload X.1 X.2.1 dX9_constant_52 (lv_at hl 0 rfl) ?_
        refine lv_iadd X.1 X.2.1 dX9_constant_54 ?_
        refine lv_lload_n X.1 X.2.1 dX9_constant_55 rfl (lv_at hl 3 rfl) ?_
        refine lv_iload X.1 X.2.1 dX9_constant_56 (lv_at hl 4 rfl) ?_
        obtain ⟨x17, h18, e19, hF⟩ := bnd_out hF
        refine ab_callSd X S (c_X9_number l D cA sz e19) mi_X9_number lm_X9_354 lt_yX9_number (As := [.long p1, .int p2]) (rest := [.int ((48 * p0) + x10), va_rf x16]) rfl ⟨by decide, by decide⟩ ⟨(by decide), (by decide)⟩ hl.1 rfl (by simp [ab_cat, ab_cI, ab_cJ, ab_cD, ab_cF]) dX9_constant_58 (fun H1 locs1 S => ?_)
        refine ab_astD X S hF dX9_constant_61 (fun h20 H1 locs1 hF S => ?_)
        exact w_X9_constant_62 X hr  S (lv_sub hl [0] rfl) hF
    · have hF := ab_neg (fun q => q c9) hF
      exact w_X9_constant_25 X hr  S (lv_sub hl [] rfl) hF
def f_X9_node_24   (h : Hp) : Option (Int32 × Hp) :=
  some ((-1), h)
set_option maxHeartbeats 4000000 in
set_option maxRecDepth 100000 in
theorem w_X9_node_24 {p : Program} {l : Launch} {e : Env} {s : State} {m : MethodId} {args : Array Value} {below : List Frame} {meth : Method} {c : Code} {D : va_G} {cA : Nat → ClassId} {sz : Nat} {rr : Int32} {hh : Hp}  (X : ab_X p s m args meth c cX9_node 8 RX9 D cA sz) (hr : meth.sig.returnType = (some .int))  {H : Heap} {locs : List Loc} {ls : Array Slot}  {h : Hp} (S : ab_H D cA sz h s H locs) (hl : lv_has ls 8 []) (hF : f_X9_node_24  h = some (rr, hh)) : W p l e (ab_rm 1 0 0) s m args below meth c H locs 0 0 (MQ below (ab_Q D cA sz (some (.int rr)) hh) args s 0 0 (fun q => sz ≤ q)) (F0 m 24 ls []) := by
  unfold f_X9_node_24 at hF
  refine lv_iconst (v := (-1)) X.1 X.2.1 dX9_node_24 (by decide) ?_
  exact ab_iret X S hr hF dX9_node_25
def f_X9_node_235  (u0 : Int32) (h : Hp) : Option (Int32 × Hp) :=
  some (u0, h)
set_option maxHeartbeats 4000000 in
set_option maxRecDepth 100000 in
theorem w_X9_node_235 {p : Program} {l : Launch} {e : Env} {s : State} {m : MethodId} {args : Array Value} {below : List Frame} {meth : Method} {c : Code} {D : va_G} {cA : Nat → ClassId} {sz : Nat} {rr : Int32} {hh : Hp}  (X : ab_X p s m args meth c cX9_node 8 RX9 D cA sz) (hr : meth.sig.returnType = (some .int))  {H : Heap} {locs : List Loc} {ls : Array Slot} {u0 : Int32} {h : Hp} (S : ab_H D cA sz h s H locs) (hl : lv_has ls 8 []) (hF : f_X9_node_235 u0 h = some (rr, hh)) : W p l e (ab_rm 1 0 0) s m args below meth c H locs 0 0 (MQ below (ab_Q D cA sz (some (.int rr)) hh) args s 0 0 (fun q => sz ≤ q)) (F0 m 235 ls [.int u0]) := by
  unfold f_X9_node_235 at hF
  exact ab_iret X S hr hF dX9_node_235
def f_X9_node_215  (v0 : Option Nat) (v1 : Int32) (v2 : Int32) (v3 : Int32) (v4 : Int32) (v5 : Int32) (v7 : Int32) (h : Hp) : Option (Int32 × Hp) :=
  if v7 = 0 then
    f_X9_node_235 (-1) h
  else
    (ab_ck h v0 (9, 0)).bind fun a5 =>
    bnd (f_X9_comesNode a5 v1 v2 v3 v4 v5 h) fun x2 h3 =>
    f_X9_node_235 x2 h3
set_option maxHeartbeats 4000000 in
set_option maxRecDepth 100000 in
theorem w_X9_node_215 {p : Program} {l : Launch} {e : Env} {s : State} {m : MethodId} {args : Array Value} {below : List Frame} {meth : Method} {c : Code} {D : va_G} {cA : Nat → ClassId} {sz : Nat} {rr : Int32} {hh : Hp}  (X : ab_X p s m args meth c cX9_node 8 RX9 D cA sz) (hr : meth.sig.returnType = (some .int))  {H : Heap} {locs : List Loc} {ls : Array Slot} {v0 : Option Nat} {v1 : Int32} {v2 : Int32} {v3 : Int32} {v4 : Int32} {v5 : Int32} {v7 : Int32} {h : Hp} (S : ab_H D cA sz h s H locs) (hl : lv_has ls 8 [(0, va_rf v0), (1, .int v1), (2, .int v2), (3, .int v3), (4, .int v4), (5, .int v5), (7, .int v7)]) (hF : f_X9_node_215 v0 v1 v2 v3 v4 v5 v7 h = some (rr, hh)) : W p l e (ab_rm 1 0 0) s m args below meth c H locs 0 0 (MQ below (ab_Q D cA sz (some (.int rr)) hh) args s 0 0 (fun q => sz ≤ q)) (F0 m 215 ls []) := by
  unfold f_X9_node_215 at hF
  refine lv_iload X.1 X.2.1 dX9_node_215 (lv_at hl 6 rfl) ?_
  refine lv_if_eq (tgt := 234) X.1 X.2.1 dX9_node_217 (by decide) (fun c1 => ?_) (fun c1 => ?_)
  · have hF := ab_pos c1 hF
    refine lv_iconst (v := (-1)) X.1 X.2.1 dX9_node_234 (by decide) ?_
    exact w_X9_node_235 X hr  S (lv_sub hl [] rfl) hF
  · have hF := ab_neg c1 hF
    refine ab_aload_n X dX9_node_220 rfl (lv_at hl 0 rfl) ?_
    refine lv_iload_n X.1 X.2.1 dX9_node_221 rfl (lv_at hl 1 rfl) ?_
    refine lv_iload_n X.1 X.2.1 dX9_node_222 rfl (lv_at hl 2 rfl) ?_
    refine lv_iload_n X.1 X.2.1 dX9_node_223 rfl (lv_at hl 3 rfl) ?_
    refine lv_iload X.1 X.2.1 dX9_node_224 (lv_at hl 4 rfl) ?_
    refine lv_iload X.1 X.2.1 dX9_node_226 (lv_at hl 5 rfl) ?_
    obtain ⟨a5, e6, hF⟩ := bind_out hF
    obtain ⟨x2, h3, e4, hF⟩ := bnd_out hF
    refine ab_callVi X S e6 (c_X9_comesNode l D cA sz e4) rfl (by decide) mi_X9_comesNode lm_X9_350 li_yX9_comesNode ls_yX9_comesNode (As := [.int v1, .int v2, .int v3, .int v4, .int v5]) (rest := []) rfl ⟨by decide, by decide⟩ ⟨(by decide), (by decide)⟩ hl.1 rfl (by simp [ab_cat, ab_cI, ab_cJ, ab_cD, ab_cF]) dX9_node_228 (fun H1 locs1 S => ?_)
    refine lv_goto (tgt := 235) X.1 X.2.1 dX9_node_231 (by decide) ?_
    exact w_X9_node_235 X hr  S (lv_sub hl [] rfl) hF
def f_X9_node_213  (v0 : Option Nat) (v1 : Int32) (v2 : Int32) (v3 : Int32) (v4 : Int32) (v5 : Int32) (u0 : Int32) (h : Hp) : Option (Int32 × Hp) :=
  f_X9_node_215 v0 v1 v2 v3 v4 v5 u0 h
set_option maxHeartbeats 4000000 in
set_option maxRecDepth 100000 in
theorem w_X9_node_213 {p : Program} {l : Launch} {e : Env} {s : State} {m : MethodId} {args : Array Value} {below : List Frame} {meth : Method} {c : Code} {D : va_G} {cA : Nat → ClassId} {sz : Nat} {rr : Int32} {hh : Hp}  (X : ab_X p s m args meth c cX9_node 8 RX9 D cA sz) (hr : meth.sig.returnType = (some .int))  {H : Heap} {locs : List Loc} {ls : Array Slot} {v0 : Option Nat} {v1 : Int32} {v2 : Int32} {v3 : Int32} {v4 : Int32} {v5 : Int32} {u0 : Int32} {h : Hp} (S : ab_H D cA sz h s H locs) (hl : lv_has ls 8 [(0, va_rf v0), (1, .int v1), (2, .int v2), (3, .int v3), (4, .int v4), (5, .int v5)]) (hF : f_X9_node_213 v0 v1 v2 v3 v4 v5 u0 h = some (rr, hh)) : W p l e (ab_rm 1 0 0) s m args below meth c H locs 0 0 (MQ below (ab_Q D cA sz (some (.int rr)) hh) args s 0 0 (fun q => sz ≤ q)) (F0 m 213 ls [.int u0]) := by
  unfold f_X9_node_213 at hF
  refine lv_istore (lv' := [(7, .int u0), (0, va_rf v0), (1, .int v1), (2, .int v2), (3, .int v3), (4, .int v4), (5, .int v5)]) X.1 X.2.1 dX9_node_213 hl (by decide) (by simp [ab_cat, ab_cI, ab_cJ, ab_cD, ab_cF]) (fun ls hl => ?_)
  exact w_X9_node_215 X hr  S (lv_sub hl [1, 2, 3, 4, 5, 6, 0] rfl) hF
def f_X9_node_212  (v0 : Option Nat) (v1 : Int32) (v2 : Int32) (v3 : Int32) (v4 : Int32) (v5 : Int32) (h : Hp) : Option (Int32 × Hp) :=
  f_X9_node_213 v0 v1 v2 v3 v4 v5 0 h
set_option maxHeartbeats 4000000 in
set_option maxRecDepth 100000 in
theorem w_X9_node_212 {p : Program} {l : Launch} {e : Env} {s : State} {m : MethodId} {args : Array Value} {below : List Frame} {meth : Method} {c : Code} {D : va_G} {cA : Nat → ClassId} {sz : Nat} {rr : Int32} {hh : Hp}  (X : ab_X p s m args meth c cX9_node 8 RX9 D cA sz) (hr : meth.sig.returnType = (some .int))  {H : Heap} {locs : List Loc} {ls : Array Slot} {v0 : Option Nat} {v1 : Int32} {v2 : Int32} {v3 : Int32} {v4 : Int32} {v5 : Int32} {h : Hp} (S : ab_H D cA sz h s H locs) (hl : lv_has ls 8 [(0, va_rf v0), (1, .int v1), (2, .int v2), (3, .int v3), (4, .int v4), (5, .int v5)]) (hF : f_X9_node_212 v0 v1 v2 v3 v4 v5 h = some (rr, hh)) : W p l e (ab_rm 1 0 0) s m args below meth c H locs 0 0 (MQ below (ab_Q D cA sz (some (.int rr)) hh) args s 0 0 (fun q => sz ≤ q)) (F0 m 212 ls []) := by
  unfold f_X9_node_212 at hF
  refine lv_iconst (v := 0) X.1 X.2.1 dX9_node_212 (by decide) ?_
  exact w_X9_node_213 X hr  S (lv_sub hl [0, 1, 2, 3, 4, 5] rfl) hF
def f_X9_node_182  (v0 : Option Nat) (v1 : Int32) (v2 : Int32) (v3 : Int32) (v4 : Int32) (v5 : Int32) (v7 : Int32) (h : Hp) : Option (Int32 × Hp) :=
  if ¬ v2 = 12 then
    f_X9_node_215 v0 v1 v2 v3 v4 v5 v7 h
  else
    if v7 = 0 then
      f_X9_node_212 v0 v1 v2 v3 v4 v5 h
    else
      (getI h v0 9 14).bind fun x3 =>
      bnd (f_X9_in v4 0 (x3 - 1) h) fun x4 h5 =>
      if x4 = 0 then
        f_X9_node_212 v0 v1 v2 v3 v4 v5 h5
      else
        f_X9_node_213 v0 v1 v2 v3 v4 v5 1 h5
set_option maxHeartbeats 4000000 in
set_option maxRecDepth 100000 in
theorem w_X9_node_182 {p : Program} {l : Launch} {e : Env} {s : State} {m : MethodId} {args : Array Value} {below : List Frame} {meth : Method} {c : Code} {D : va_G} {cA : Nat → ClassId} {sz : Nat} {rr : Int32} {hh : Hp}  (X : ab_X p s m args meth c cX9_node 8 RX9 D cA sz) (hr : meth.sig.returnType = (some .int))  {H : Heap} {locs : List Loc} {ls : Array Slot} {v0 : Option Nat} {v1 : Int32} {v2 : Int32} {v3 : Int32} {v4 : Int32} {v5 : Int32} {v7 : Int32} {h : Hp} (S : ab_H D cA sz h s H locs) (hl : lv_has ls 8 [(0, va_rf v0), (1, .int v1), (2, .int v2), (3, .int v3), (4, .int v4), (5, .int v5), (7, .int v7)]) (hF : f_X9_node_182 v0 v1 v2 v3 v4 v5 v7 h = some (rr, hh)) : W p l e (ab_rm 1 0 0) s m args below meth c H locs 0 0 (MQ below (ab_Q D cA sz (some (.int rr)) hh) args s 0 0 (fun q => sz ≤ q)) (F0 m 182 ls []) := by
  unfold f_X9_node_182 at hF
  refine lv_iload_n X.1 X.2.1 dX9_node_182 rfl (lv_at hl 2 rfl) ?_
  refine lv_bipush (v := 12) X.1 X.2.1 dX9_node_183 (by decide) ?_
  refine lv_icmp_ne (tgt := 215) X.1 X.2.1 dX9_node_185 (by decide) (fun c1 => ?_) (fun c1 => ?_)
  · have hF := ab_pos c1 hF
    exact w_X9_node_215 X hr  S (lv_sub hl [0, 1, 2, 3, 4, 5, 6] rfl) hF
  · have hF := ab_neg (fun q => q c1) hF
    refine lv_iload X.1 X.2.1 dX9_node_188 (lv_at hl 6 rfl) ?_
    refine lv_if_eq (tgt := 212) X.1 X.2.1 dX9_node_190 (by decide) (fun c2 => ?_) (fun c2 => ?_)
    · have hF := ab_pos c2 hF
      exact w_X9_node_212 X hr  S (lv_sub hl [0, 1, 2, 3, 4, 5] rfl) hF
    · have hF := ab_neg c2 hF
      refine lv_iload X.1 X.2.1 dX9_node_193 (lv_at hl 4 rfl) ?_
      refine lv_iconst (v := 0) X.1 X.2.1 dX9_node_195 (by decide) ?_
      refine ab_aload_n X dX9_node_196 rfl (lv_at hl 0 rfl) ?_
      refine ab_getI X S hF fi_9_14 lf_X9_358 dX9_node_197 (fun x3 hF => ?_)
      refine lv_iconst (v := 1) X.1 X.2.1 dX9_node_200 (by decide) ?_
      refine lv_isub X.1 X.2.1 dX9_node_201 ?_
      obtain ⟨x4, h5, e6, hF⟩ := bnd_out hF
      refine ab_callSi X S (c_X9_in l D cA sz e6) mi_X9_in lm_X9_343 lt_yX9_in (As := [.int v4, .int 0, .int (x3 - 1)]) (rest := []) rfl ⟨by decide, by decide⟩ ⟨(by decide), (by decide)⟩ hl.1 rfl (by simp [ab_cat, ab_cI, ab_cJ, ab_cD, ab_cF]) dX9_node_202 (fun H1 locs1 S => ?_)
      refine lv_if_eq (tgt := 212) X.1 X.2.1 dX9_node_205 (by decide) (fun c7 => ?_) (fun c7 => ?_)
      · have hF := ab_pos c7 hF
        exact w_X9_node_212 X hr  S (lv_sub hl [0, 1, 2, 3, 4, 5] rfl) hF
      · have hF := ab_neg c7 hF
        refine lv_iconst (v := 1) X.1 X.2.1 dX9_node_208 (by decide) ?_
        refine lv_goto (tgt := 213) X.1 X.2.1 dX9_node_209 (by decide) ?_
        exact w_X9_node_213 X hr  S (lv_sub hl [0, 1, 2, 3, 4, 5] rfl) hF
def f_X9_node_180  (v0 : Option Nat) (v1 : Int32) (v2 : Int32) (v3 : Int32) (v4 : Int32) (v5 : Int32) (u0 : Int32) (h : Hp) : Option (Int32 × Hp) :=
  f_X9_node_182 v0 v1 v2 v3 v4 v5 u0 h
set_option maxHeartbeats 4000000 in
set_option maxRecDepth 100000 in
theorem w_X9_node_180 {p : Program} {l : Launch} {e : Env} {s : State} {m : MethodId} {args : Array Value} {below : List Frame} {meth : Method} {c : Code} {D : va_G} {cA : Nat → ClassId} {sz : Nat} {rr : Int32} {hh : Hp}  (X : ab_X p s m args meth c cX9_node 8 RX9 D cA sz) (hr : meth.sig.returnType = (some .int))  {H : Heap} {locs : List Loc} {ls : Array Slot} {v0 : Option Nat} {v1 : Int32} {v2 : Int32} {v3 : Int32} {v4 : Int32} {v5 : Int32} {u0 : Int32} {h : Hp} (S : ab_H D cA sz h s H locs) (hl : lv_has ls 8 [(0, va_rf v0), (1, .int v1), (2, .int v2), (3, .int v3), (4, .int v4), (5, .int v5)]) (hF : f_X9_node_180 v0 v1 v2 v3 v4 v5 u0 h = some (rr, hh)) : W p l e (ab_rm 1 0 0) s m args below meth c H locs 0 0 (MQ below (ab_Q D cA sz (some (.int rr)) hh) args s 0 0 (fun q => sz ≤ q)) (F0 m 180 ls [.int u0]) := by
  unfold f_X9_node_180 at hF
  refine lv_istore (lv' := [(7, .int u0), (0, va_rf v0), (1, .int v1), (2, .int v2), (3, .int v3), (4, .int v4), (5, .int v5)]) X.1 X.2.1 dX9_node_180 hl (by decide) (by simp [ab_cat, ab_cI, ab_cJ, ab_cD, ab_cF]) (fun ls hl => ?_)
  exact w_X9_node_182 X hr  S (lv_sub hl [1, 2, 3, 4, 5, 6, 0] rfl) hF
def f_X9_node_179  (v0 : Option Nat) (v1 : Int32) (v2 : Int32) (v3 : Int32) (v4 : Int32) (v5 : Int32) (h : Hp) : Option (Int32 × Hp) :=
  f_X9_node_180 v0 v1 v2 v3 v4 v5 0 h
set_option maxHeartbeats 4000000 in
set_option maxRecDepth 100000 in
theorem w_X9_node_179 {p : Program} {l : Launch} {e : Env} {s : State} {m : MethodId} {args : Array Value} {below : List Frame} {meth : Method} {c : Code} {D : va_G} {cA : Nat → ClassId} {sz : Nat} {rr : Int32} {hh : Hp}  (X : ab_X p s m args meth c cX9_node 8 RX9 D cA sz) (hr : meth.sig.returnType = (some .int))  {H : Heap} {locs : List Loc} {ls : Array Slot} {v0 : Option Nat} {v1 : Int32} {v2 : Int32} {v3 : Int32} {v4 : Int32} {v5 : Int32} {h : Hp} (S : ab_H D cA sz h s H locs) (hl : lv_has ls 8 [(0, va_rf v0), (1, .int v1), (2, .int v2), (3, .int v3), (4, .int v4), (5, .int v5)]) (hF : f_X9_node_179 v0 v1 v2 v3 v4 v5 h = some (rr, hh)) : W p l e (ab_rm 1 0 0) s m args below meth c H locs 0 0 (MQ below (ab_Q D cA sz (some (.int rr)) hh) args s 0 0 (fun q => sz ≤ q)) (F0 m 179 ls []) := by
  unfold f_X9_node_179 at hF
  refine lv_iconst (v := 0) X.1 X.2.1 dX9_node_179 (by decide) ?_
  exact w_X9_node_180 X hr  S (lv_sub hl [0, 1, 2, 3, 4, 5] rfl) hF
def f_X9_node_153  (v0 : Option Nat) (v1 : Int32) (v2 : Int32) (v3 : Int32) (v4 : Int32) (v5 : Int32) (v7 : Int32) (h : Hp) : Option (Int32 × Hp) :=
  if ¬ v2 = 11 then
    f_X9_node_182 v0 v1 v2 v3 v4 v5 v7 h
  else
    if v7 = 0 then
      f_X9_node_179 v0 v1 v2 v3 v4 v5 h
    else
      bnd (f_X9_in v4 0 9 h) fun x3 h4 =>
      if x3 = 0 then
        f_X9_node_179 v0 v1 v2 v3 v4 v5 h4
      else
        f_X9_node_180 v0 v1 v2 v3 v4 v5 1 h4
set_option maxHeartbeats 4000000 in
set_option maxRecDepth 100000 in
theorem w_X9_node_153 {p : Program} {l : Launch} {e : Env} {s : State} {m : MethodId} {args : Array Value} {below : List Frame} {meth : Method} {c : Code} {D : va_G} {cA : Nat → ClassId} {sz : Nat} {rr : Int32} {hh : Hp}  (X : ab_X p s m args meth c cX9_node 8 RX9 D cA sz) (hr : meth.sig.returnType = (some .int))  {H : Heap} {locs : List Loc} {ls : Array Slot} {v0 : Option Nat} {v1 : Int32} {v2 : Int32} {v3 : Int32} {v4 : Int32} {v5 : Int32} {v7 : Int32} {h : Hp} (S : ab_H D cA sz h s H locs) (hl : lv_has ls 8 [(0, va_rf v0), (1, .int v1), (2, .int v2), (3, .int v3), (4, .int v4), (5, .int v5), (7, .int v7)]) (hF : f_X9_node_153 v0 v1 v2 v3 v4 v5 v7 h = some (rr, hh)) : W p l e (ab_rm 1 0 0) s m args below meth c H locs 0 0 (MQ below (ab_Q D cA sz (some (.int rr)) hh) args s 0 0 (fun q => sz ≤ q)) (F0 m 153 ls []) := by
  unfold f_X9_node_153 at hF
  refine lv_iload_n X.1 X.2.1 dX9_node_153 rfl (lv_at hl 2 rfl) ?_
  refine lv_bipush (v := 11) X.1 X.2.1 dX9_node_154 (by decide) ?_
  refine lv_icmp_ne (tgt := 182) X.1 X.2.1 dX9_node_156 (by decide) (fun c1 => ?_) (fun c1 => ?_)
  · have hF := ab_pos c1 hF
    exact w_X9_node_182 X hr  S (lv_sub hl [0, 1, 2, 3, 4, 5, 6] rfl) hF
  · have hF := ab_neg (fun q => q c1) hF
    refine lv_iload X.1 X.2.1 dX9_node_159 (lv_at hl 6 rfl) ?_
    refine lv_if_eq (tgt := 179) X.1 X.2.1 dX9_node_161 (by decide) (fun c2 => ?_) (fun c2 => ?_)
    · have hF := ab_pos c2 hF
      exact w_X9_node_179 X hr  S (lv_sub hl [0, 1, 2, 3, 4, 5] rfl) hF
    · have hF := ab_neg c2 hF
      refine lv_iload X.1 X.2.1 dX9_node_164 (lv_at hl 4 rfl) ?_
      refine lv_iconst (v := 0) X.1 X.2.1 dX9_node_166 (by decide) ?_
      refine lv_bipush (v := 9) X.1 X.2.1 dX9_node_167 (by decide) ?_
      obtain ⟨x3, h4, e5, hF⟩ := bnd_out hF
      refine ab_callSi X S (c_X9_in l D cA sz e5) mi_X9_in lm_X9_343 lt_yX9_in (As := [.int v4, .int 0, .int 9]) (rest := []) rfl ⟨by decide, by decide⟩ ⟨(by decide), (by decide)⟩ hl.1 rfl (by simp [ab_cat, ab_cI, ab_cJ, ab_cD, ab_cF]) dX9_node_169 (fun H1 locs1 S => ?_)
      refine lv_if_eq (tgt := 179) X.1 X.2.1 dX9_node_172 (by decide) (fun c6 => ?_) (fun c6 => ?_)
      · have hF := ab_pos c6 hF
        exact w_X9_node_179 X hr  S (lv_sub hl [0, 1, 2, 3, 4, 5] rfl) hF
      · have hF := ab_neg c6 hF
        refine lv_iconst (v := 1) X.1 X.2.1 dX9_node_175 (by decide) ?_
        refine lv_goto (tgt := 180) X.1 X.2.1 dX9_node_176 (by decide) ?_
        exact w_X9_node_180 X hr  S (lv_sub hl [0, 1, 2, 3, 4, 5] rfl) hF
def f_X9_node_151  (v0 : Option Nat) (v1 : Int32) (v2 : Int32) (v3 : Int32) (v4 : Int32) (v5 : Int32) (u0 : Int32) (h : Hp) : Option (Int32 × Hp) :=
  f_X9_node_153 v0 v1 v2 v3 v4 v5 u0 h
set_option maxHeartbeats 4000000 in
set_option maxRecDepth 100000 in
theorem w_X9_node_151 {p : Program} {l : Launch} {e : Env} {s : State} {m : MethodId} {args : Array Value} {below : List Frame} {meth : Method} {c : Code} {D : va_G} {cA : Nat → ClassId} {sz : Nat} {rr : Int32} {hh : Hp}  (X : ab_X p s m args meth c cX9_node 8 RX9 D cA sz) (hr : meth.sig.returnType = (some .int))  {H : Heap} {locs : List Loc} {ls : Array Slot} {v0 : Option Nat} {v1 : Int32} {v2 : Int32} {v3 : Int32} {v4 : Int32} {v5 : Int32} {u0 : Int32} {h : Hp} (S : ab_H D cA sz h s H locs) (hl : lv_has ls 8 [(0, va_rf v0), (1, .int v1), (2, .int v2), (3, .int v3), (4, .int v4), (5, .int v5)]) (hF : f_X9_node_151 v0 v1 v2 v3 v4 v5 u0 h = some (rr, hh)) : W p l e (ab_rm 1 0 0) s m args below meth c H locs 0 0 (MQ below (ab_Q D cA sz (some (.int rr)) hh) args s 0 0 (fun q => sz ≤ q)) (F0 m 151 ls [.int u0]) := by
  unfold f_X9_node_151 at hF
  refine lv_istore (lv' := [(7, .int u0), (0, va_rf v0), (1, .int v1), (2, .int v2), (3, .int v3), (4, .int v4), (5, .int v5)]) X.1 X.2.1 dX9_node_151 hl (by decide) (by simp [ab_cat, ab_cI, ab_cJ, ab_cD, ab_cF]) (fun ls hl => ?_)
  exact w_X9_node_153 X hr  S (lv_sub hl [1, 2, 3, 4, 5, 6, 0] rfl) hF
def f_X9_node_150  (v0 : Option Nat) (v1 : Int32) (v2 : Int32) (v3 : Int32) (v4 : Int32) (v5 : Int32) (h : Hp) : Option (Int32 × Hp) :=
  f_X9_node_151 v0 v1 v2 v3 v4 v5 0 h
set_option maxHeartbeats 4000000 in
set_option maxRecDepth 100000 in
theorem w_X9_node_150 {p : Program} {l : Launch} {e : Env} {s : State} {m : MethodId} {args : Array Value} {below : List Frame} {meth : Method} {c : Code} {D : va_G} {cA : Nat → ClassId} {sz : Nat} {rr : Int32} {hh : Hp}  (X : ab_X p s m args meth c cX9_node 8 RX9 D cA sz) (hr : meth.sig.returnType = (some .int))  {H : Heap} {locs : List Loc} {ls : Array Slot} {v0 : Option Nat} {v1 : Int32} {v2 : Int32} {v3 : Int32} {v4 : Int32} {v5 : Int32} {h : Hp} (S : ab_H D cA sz h s H locs) (hl : lv_has ls 8 [(0, va_rf v0), (1, .int v1), (2, .int v2), (3, .int v3), (4, .int v4), (5, .int v5)]) (hF : f_X9_node_150 v0 v1 v2 v3 v4 v5 h = some (rr, hh)) : W p l e (ab_rm 1 0 0) s m args below meth c H locs 0 0 (MQ below (ab_Q D cA sz (some (.int rr)) hh) args s 0 0 (fun q => sz ≤ q)) (F0 m 150 ls []) := by
  unfold f_X9_node_150 at hF
  refine lv_iconst (v := 0) X.1 X.2.1 dX9_node_150 (by decide) ?_
  exact w_X9_node_151 X hr  S (lv_sub hl [0, 1, 2, 3, 4, 5] rfl) hF
def f_X9_node_124  (v0 : Option Nat) (v1 : Int32) (v2 : Int32) (v3 : Int32) (v4 : Int32) (v5 : Int32) (v6 : Int32) (v7 : Int32) (h : Hp) : Option (Int32 × Hp) :=
  if ¬ v2 = 10 then
    f_X9_node_153 v0 v1 v2 v3 v4 v5 v7 h
  else
    if v7 = 0 then
      f_X9_node_150 v0 v1 v2 v3 v4 v5 h
    else
      bnd (f_X9_in v5 0 v6 h) fun x3 h4 =>
      if x3 = 0 then
        f_X9_node_150 v0 v1 v2 v3 v4 v5 h4
      else
        f_X9_node_151 v0 v1 v2 v3 v4 v5 1 h4
set_option maxHeartbeats 4000000 in
set_option maxRecDepth 100000 in
theorem w_X9_node_124 {p : Program} {l : Launch} {e : Env} {s : State} {m : MethodId} {args : Array Value} {below : List Frame} {meth : Method} {c : Code} {D : va_G} {cA : Nat → ClassId} {sz : Nat} {rr : Int32} {hh : Hp}  (X : ab_X p s m args meth c cX9_node 8 RX9 D cA sz) (hr : meth.sig.returnType = (some .int))  {H : Heap} {locs : List Loc} {ls : Array Slot} {v0 : Option Nat} {v1 : Int32} {v2 : Int32} {v3 : Int32} {v4 : Int32} {v5 : Int32} {v6 : Int32} {v7 : Int32} {h : Hp} (S : ab_H D cA sz h s H locs) (hl : lv_has ls 8 [(0, va_rf v0), (1, .int v1), (2, .int v2), (3, .int v3), (4, .int v4), (5, .int v5), (6, .int v6), (7, .int v7)]) (hF : f_X9_node_124 v0 v1 v2 v3 v4 v5 v6 v7 h = some (rr, hh)) : W p l e (ab_rm 1 0 0) s m args below meth c H locs 0 0 (MQ below (ab_Q D cA sz (some (.int rr)) hh) args s 0 0 (fun q => sz ≤ q)) (F0 m 124 ls []) := by
  unfold f_X9_node_124 at hF
  refine lv_iload_n X.1 X.2.1 dX9_node_124 rfl (lv_at hl 2 rfl) ?_
  refine lv_bipush (v := 10) X.1 X.2.1 dX9_node_125 (by decide) ?_
  refine lv_icmp_ne (tgt := 153) X.1 X.2.1 dX9_node_127 (by decide) (fun c1 => ?_) (fun c1 => ?_)
  · have hF := ab_pos c1 hF
    exact w_X9_node_153 X hr  S (lv_sub hl [0, 1, 2, 3, 4, 5, 7] rfl) hF
  · have hF := ab_neg (fun q => q c1) hF
    refine lv_iload X.1 X.2.1 dX9_node_130 (lv_at hl 7 rfl) ?_
    refine lv_if_eq (tgt := 150) X.1 X.2.1 dX9_node_132 (by decide) (fun c2 => ?_) (fun c2 => ?_)
    · have hF := ab_pos c2 hF
      exact w_X9_node_150 X hr  S (lv_sub hl [0, 1, 2, 3, 4, 5] rfl) hF
    · have hF := ab_neg c2 hF
      refine lv_iload X.1 X.2.1 dX9_node_135 (lv_at hl 5 rfl) ?_
      refine lv_iconst (v := 0) X.1 X.2.1 dX9_node_137 (by decide) ?_
      refine lv_iload X.1 X.2.1 dX9_node_138 (lv_at hl 6 rfl) ?_
      obtain ⟨x3, h4, e5, hF⟩ := bnd_out hF
      refine ab_callSi X S (c_X9_in l D cA sz e5) mi_X9_in lm_X9_343 lt_yX9_in (As := [.int v5, .int 0, .int v6]) (rest := []) rfl ⟨by decide, by decide⟩ ⟨(by decide), (by decide)⟩ hl.1 rfl (by simp [ab_cat, ab_cI, ab_cJ, ab_cD, ab_cF]) dX9_node_140 (fun H1 locs1 S => ?_)
      refine lv_if_eq (tgt := 150) X.1 X.2.1 dX9_node_143 (by decide) (fun c6 => ?_) (fun c6 => ?_)
      · have hF := ab_pos c6 hF
        exact w_X9_node_150 X hr  S (lv_sub hl [0, 1, 2, 3, 4, 5] rfl) hF
      · have hF := ab_neg c6 hF
        refine lv_iconst (v := 1) X.1 X.2.1 dX9_node_146 (by decide) ?_
        refine lv_goto (tgt := 151) X.1 X.2.1 dX9_node_147 (by decide) ?_
        exact w_X9_node_151 X hr  S (lv_sub hl [0, 1, 2, 3, 4, 5] rfl) hF
def f_X9_node_122  (v0 : Option Nat) (v1 : Int32) (v2 : Int32) (v3 : Int32) (v4 : Int32) (v5 : Int32) (v6 : Int32) (u0 : Int32) (h : Hp) : Option (Int32 × Hp) :=
  f_X9_node_124 v0 v1 v2 v3 v4 v5 v6 u0 h
set_option maxHeartbeats 4000000 in
set_option maxRecDepth 100000 in
theorem w_X9_node_122 {p : Program} {l : Launch} {e : Env} {s : State} {m : MethodId} {args : Array Value} {below : List Frame} {meth : Method} {c : Code} {D : va_G} {cA : Nat → ClassId} {sz : Nat} {rr : Int32} {hh : Hp}  (X : ab_X p s m args meth c cX9_node 8 RX9 D cA sz) (hr : meth.sig.returnType = (some .int))  {H : Heap} {locs : List Loc} {ls : Array Slot} {v0 : Option Nat} {v1 : Int32} {v2 : Int32} {v3 : Int32} {v4 : Int32} {v5 : Int32} {v6 : Int32} {u0 : Int32} {h : Hp} (S : ab_H D cA sz h s H locs) (hl : lv_has ls 8 [(0, va_rf v0), (1, .int v1), (2, .int v2), (3, .int v3), (4, .int v4), (5, .int v5), (6, .int v6)]) (hF : f_X9_node_122 v0 v1 v2 v3 v4 v5 v6 u0 h = some (rr, hh)) : W p l e (ab_rm 1 0 0) s m args below meth c H locs 0 0 (MQ below (ab_Q D cA sz (some (.int rr)) hh) args s 0 0 (fun q => sz ≤ q)) (F0 m 122 ls [.int u0]) := by
  unfold f_X9_node_122 at hF
  refine lv_istore (lv' := [(7, .int u0), (0, va_rf v0), (1, .int v1), (2, .int v2), (3, .int v3), (4, .int v4), (5, .int v5), (6, .int v6)]) X.1 X.2.1 dX9_node_122 hl (by decide) (by simp [ab_cat, ab_cI, ab_cJ, ab_cD, ab_cF]) (fun ls hl => ?_)
  exact w_X9_node_124 X hr  S (lv_sub hl [1, 2, 3, 4, 5, 6, 7, 0] rfl) hF
def f_X9_node_121  (v0 : Option Nat) (v1 : Int32) (v2 : Int32) (v3 : Int32) (v4 : Int32) (v5 : Int32) (v6 : Int32) (h : Hp) : Option (Int32 × Hp) :=
  f_X9_node_122 v0 v1 v2 v3 v4 v5 v6 0 h
set_option maxHeartbeats 4000000 in
set_option maxRecDepth 100000 in
theorem w_X9_node_121 {p : Program} {l : Launch} {e : Env} {s : State} {m : MethodId} {args : Array Value} {below : List Frame} {meth : Method} {c : Code} {D : va_G} {cA : Nat → ClassId} {sz : Nat} {rr : Int32} {hh : Hp}  (X : ab_X p s m args meth c cX9_node 8 RX9 D cA sz) (hr : meth.sig.returnType = (some .int))  {H : Heap} {locs : List Loc} {ls : Array Slot} {v0 : Option Nat} {v1 : Int32} {v2 : Int32} {v3 : Int32} {v4 : Int32} {v5 : Int32} {v6 : Int32} {h : Hp} (S : ab_H D cA sz h s H locs) (hl : lv_has ls 8 [(0, va_rf v0), (1, .int v1), (2, .int v2), (3, .int v3), (4, .int v4), (5, .int v5), (6, .int v6)]) (hF : f_X9_node_121 v0 v1 v2 v3 v4 v5 v6 h = some (rr, hh)) : W p l e (ab_rm 1 0 0) s m args below meth c H locs 0 0 (MQ below (ab_Q D cA sz (some (.int rr)) hh) args s 0 0 (fun q => sz ≤ q)) (F0 m 121 ls []) := by
  unfold f_X9_node_121 at hF
  refine lv_iconst (v := 0) X.1 X.2.1 dX9_node_121 (by decide) ?_
  exact w_X9_node_122 X hr  S (lv_sub hl [0, 1, 2, 3, 4, 5, 6] rfl) hF
def f_X9_node_101  (v0 : Option Nat) (v1 : Int32) (v2 : Int32) (v3 : Int32) (v4 : Int32) (v5 : Int32) (v6 : Int32) (v7 : Int32) (h : Hp) : Option (Int32 × Hp) :=
  if v7 = 0 then
    f_X9_node_121 v0 v1 v2 v3 v4 v5 v6 h
  else
    bnd (f_X9_in v4 0 v6 h) fun x2 h3 =>
    if x2 = 0 then
      f_X9_node_121 v0 v1 v2 v3 v4 v5 v6 h3
    else
      f_X9_node_122 v0 v1 v2 v3 v4 v5 v6 1 h3
set_option maxHeartbeats 4000000 in
set_option maxRecDepth 100000 in
theorem w_X9_node_101 {p : Program} {l : Launch} {e : Env} {s : State} {m : MethodId} {args : Array Value} {below : List Frame} {meth : Method} {c : Code} {D : va_G} {cA : Nat → ClassId} {sz : Nat} {rr : Int32} {hh : Hp}  (X : ab_X p s m args meth c cX9_node 8 RX9 D cA sz) (hr : meth.sig.returnType = (some .int))  {H : Heap} {locs : List Loc} {ls : Array Slot} {v0 : Option Nat} {v1 : Int32} {v2 : Int32} {v3 : Int32} {v4 : Int32} {v5 : Int32} {v6 : Int32} {v7 : Int32} {h : Hp} (S : ab_H D cA sz h s H locs) (hl : lv_has ls 8 [(0, va_rf v0), (1, .int v1), (2, .int v2), (3, .int v3), (4, .int v4), (5, .int v5), (6, .int v6), (7, .int v7)]) (hF : f_X9_node_101 v0 v1 v2 v3 v4 v5 v6 v7 h = some (rr, hh)) : W p l e (ab_rm 1 0 0) s m args below meth c H locs 0 0 (MQ below (ab_Q D cA sz (some (.int rr)) hh) args s 0 0 (fun q => sz ≤ q)) (F0 m 101 ls []) := by
  unfold f_X9_node_101 at hF
  refine lv_iload X.1 X.2.1 dX9_node_101 (lv_at hl 7 rfl) ?_
  refine lv_if_eq (tgt := 121) X.1 X.2.1 dX9_node_103 (by decide) (fun c1 => ?_) (fun c1 => ?_)
  · have hF := ab_pos c1 hF
    exact w_X9_node_121 X hr  S (lv_sub hl [0, 1, 2, 3, 4, 5, 6] rfl) hF
  · have hF := ab_neg c1 hF
    refine lv_iload X.1 X.2.1 dX9_node_106 (lv_at hl 4 rfl) ?_
    refine lv_iconst (v := 0) X.1 X.2.1 dX9_node_108 (by decide) ?_
    refine lv_iload X.1 X.2.1 dX9_node_109 (lv_at hl 6 rfl) ?_
    obtain ⟨x2, h3, e4, hF⟩ := bnd_out hF
    refine ab_callSi X S (c_X9_in l D cA sz e4) mi_X9_in lm_X9_343 lt_yX9_in (As := [.int v4, .int 0, .int v6]) (rest := []) rfl ⟨by decide, by decide⟩ ⟨(by decide), (by decide)⟩ hl.1 rfl (by simp [ab_cat, ab_cI, ab_cJ, ab_cD, ab_cF]) dX9_node_111 (fun H1 locs1 S => ?_)
    refine lv_if_eq (tgt := 121) X.1 X.2.1 dX9_node_114 (by decide) (fun c5 => ?_) (fun c5 => ?_)
    · have hF := ab_pos c5 hF
      exact w_X9_node_121 X hr  S (lv_sub hl [0, 1, 2, 3, 4, 5, 6] rfl) hF
    · have hF := ab_neg c5 hF
      refine lv_iconst (v := 1) X.1 X.2.1 dX9_node_117 (by decide) ?_
      refine lv_goto (tgt := 122) X.1 X.2.1 dX9_node_118 (by decide) ?_
      exact w_X9_node_122 X hr  S (lv_sub hl [0, 1, 2, 3, 4, 5, 6] rfl) hF
def f_X9_node_79  (v0 : Option Nat) (v1 : Int32) (v2 : Int32) (v3 : Int32) (v4 : Int32) (v5 : Int32) (v6 : Int32) (u0 : Int32) (h : Hp) : Option (Int32 × Hp) :=
  bnd (f_X9_in v2 2 5 h) fun x1 h2 =>
  if ¬ x1 = 0 then
    f_X9_node_101 v0 v1 v2 v3 v4 v5 v6 u0 h2
  else
    bnd (f_X9_in v2 8 10 h2) fun x5 h6 =>
    if x5 = 0 then
      f_X9_node_124 v0 v1 v2 v3 v4 v5 v6 u0 h6
    else
      f_X9_node_101 v0 v1 v2 v3 v4 v5 v6 u0 h6
set_option maxHeartbeats 4000000 in
set_option maxRecDepth 100000 in
theorem w_X9_node_79 {p : Program} {l : Launch} {e : Env} {s : State} {m : MethodId} {args : Array Value} {below : List Frame} {meth : Method} {c : Code} {D : va_G} {cA : Nat → ClassId} {sz : Nat} {rr : Int32} {hh : Hp}  (X : ab_X p s m args meth c cX9_node 8 RX9 D cA sz) (hr : meth.sig.returnType = (some .int))  {H : Heap} {locs : List Loc} {ls : Array Slot} {v0 : Option Nat} {v1 : Int32} {v2 : Int32} {v3 : Int32} {v4 : Int32} {v5 : Int32} {v6 : Int32} {u0 : Int32} {h : Hp} (S : ab_H D cA sz h s H locs) (hl : lv_has ls 8 [(0, va_rf v0), (1, .int v1), (2, .int v2), (3, .int v3), (4, .int v4), (5, .int v5), (6, .int v6)]) (hF : f_X9_node_79 v0 v1 v2 v3 v4 v5 v6 u0 h = some (rr, hh)) : W p l e (ab_rm 1 0 0) s m args below meth c H locs 0 0 (MQ below (ab_Q D cA sz (some (.int rr)) hh) args s 0 0 (fun q => sz ≤ q)) (F0 m 79 ls [.int u0]) := by
  unfold f_X9_node_79 at hF
  refine lv_istore (lv' := [(7, .int u0), (0, va_rf v0), (1, .int v1), (2, .int v2), (3, .int v3), (4, .int v4), (5, .int v5), (6, .int v6)]) X.1 X.2.1 dX9_node_79 hl (by decide) (by simp [ab_cat, ab_cI, ab_cJ, ab_cD, ab_cF]) (fun ls hl => ?_)
  refine lv_iload_n X.1 X.2.1 dX9_node_81 rfl (lv_at hl 3 rfl) ?_
  refine lv_iconst (v := 2) X.1 X.2.1 dX9_node_82 (by decide) ?_
  refine lv_iconst (v := 5) X.1 X.2.1 dX9_node_83 (by decide) ?_
  obtain ⟨x1, h2, e3, hF⟩ := bnd_out hF
  refine ab_callSi X S (c_X9_in l D cA sz e3) mi_X9_in lm_X9_343 lt_yX9_in (As := [.int v2, .int 2, .int 5]) (rest := []) rfl ⟨by decide, by decide⟩ ⟨(by decide), (by decide)⟩ hl.1 rfl (by simp [ab_cat, ab_cI, ab_cJ, ab_cD, ab_cF]) dX9_node_84 (fun H1 locs1 S => ?_)
  refine lv_if_ne (tgt := 101) X.1 X.2.1 dX9_node_87 (by decide) (fun c4 => ?_) (fun c4 => ?_)
  · have hF := ab_pos c4 hF
    exact w_X9_node_101 X hr  S (lv_sub hl [1, 2, 3, 4, 5, 6, 7, 0] rfl) hF
  · have hF := ab_neg (fun q => q c4) hF
    refine lv_iload_n X.1 X.2.1 dX9_node_90 rfl (lv_at hl 3 rfl) ?_
    refine lv_bipush (v := 8) X.1 X.2.1 dX9_node_91 (by decide) ?_
    refine lv_bipush (v := 10) X.1 X.2.1 dX9_node_93 (by decide) ?_
    obtain ⟨x5, h6, e7, hF⟩ := bnd_out hF
    refine ab_callSi X S (c_X9_in l D cA sz e7) mi_X9_in lm_X9_343 lt_yX9_in (As := [.int v2, .int 8, .int 10]) (rest := []) rfl ⟨by decide, by decide⟩ ⟨(by decide), (by decide)⟩ hl.1 rfl (by simp [ab_cat, ab_cI, ab_cJ, ab_cD, ab_cF]) dX9_node_95 (fun H1 locs1 S => ?_)
    refine lv_if_eq (tgt := 124) X.1 X.2.1 dX9_node_98 (by decide) (fun c8 => ?_) (fun c8 => ?_)
    · have hF := ab_pos c8 hF
      exact w_X9_node_124 X hr  S (lv_sub hl [1, 2, 3, 4, 5, 6, 7, 0] rfl) hF
    · have hF := ab_neg c8 hF
      exact w_X9_node_101 X hr  S (lv_sub hl [1, 2, 3, 4, 5, 6, 7, 0] rfl) hF
def f_X9_node_74  (v0 : Option Nat) (v1 : Int32) (v2 : Int32) (v3 : Int32) (v4 : Int32) (v5 : Int32) (v6 : Int32) (h : Hp) : Option (Int32 × Hp) :=
  f_X9_node_79 v0 v1 v2 v3 v4 v5 v6 1 h
set_option maxHeartbeats 4000000 in
set_option maxRecDepth 100000 in
theorem w_X9_node_74 {p : Program} {l : Launch} {e : Env} {s : State} {m : MethodId} {args : Array Value} {below : List Frame} {meth : Method} {c : Code} {D : va_G} {cA : Nat → ClassId} {sz : Nat} {rr : Int32} {hh : Hp}  (X : ab_X p s m args meth c cX9_node 8 RX9 D cA sz) (hr : meth.sig.returnType = (some .int))  {H : Heap} {locs : List Loc} {ls : Array Slot} {v0 : Option Nat} {v1 : Int32} {v2 : Int32} {v3 : Int32} {v4 : Int32} {v5 : Int32} {v6 : Int32} {h : Hp} (S : ab_H D cA sz h s H locs) (hl : lv_has ls 8 [(0, va_rf v0), (1, .int v1), (2, .int v2), (3, .int v3), (4, .int v4), (5, .int v5), (6, .int v6)]) (hF : f_X9_node_74 v0 v1 v2 v3 v4 v5 v6 h = some (rr, hh)) : W p l e (ab_rm 1 0 0) s m args below meth c H locs 0 0 (MQ below (ab_Q D cA sz (some (.int rr)) hh) args s 0 0 (fun q => sz ≤ q)) (F0 m 74 ls []) := by
  unfold f_X9_node_74 at hF
  refine lv_iconst (v := 1) X.1 X.2.1 dX9_node_74 (by decide) ?_
  refine lv_goto (tgt := 79) X.1 X.2.1 dX9_node_75 (by decide) ?_
  exact w_X9_node_79 X hr  S (lv_sub hl [0, 1, 2, 3, 4, 5, 6] rfl) hF
def f_X9_node_78  (v0 : Option Nat) (v1 : Int32) (v2 : Int32) (v3 : Int32) (v4 : Int32) (v5 : Int32) (v6 : Int32) (h : Hp) : Option (Int32 × Hp) :=
  f_X9_node_79 v0 v1 v2 v3 v4 v5 v6 0 h
set_option maxHeartbeats 4000000 in
set_option maxRecDepth 100000 in
theorem w_X9_node_78 {p : Program} {l : Launch} {e : Env} {s : State} {m : MethodId} {args : Array Value} {below : List Frame} {meth : Method} {c : Code} {D : va_G} {cA : Nat → ClassId} {sz : Nat} {rr : Int32} {hh : Hp}  (X : ab_X p s m args meth c cX9_node 8 RX9 D cA sz) (hr : meth.sig.returnType = (some .int))  {H : Heap} {locs : List Loc} {ls : Array Slot} {v0 : Option Nat} {v1 : Int32} {v2 : Int32} {v3 : Int32} {v4 : Int32} {v5 : Int32} {v6 : Int32} {h : Hp} (S : ab_H D cA sz h s H locs) (hl : lv_has ls 8 [(0, va_rf v0), (1, .int v1), (2, .int v2), (3, .int v3), (4, .int v4), (5, .int v5), (6, .int v6)]) (hF : f_X9_node_78 v0 v1 v2 v3 v4 v5 v6 h = some (rr, hh)) : W p l e (ab_rm 1 0 0) s m args below meth c H locs 0 0 (MQ below (ab_Q D cA sz (some (.int rr)) hh) args s 0 0 (fun q => sz ≤ q)) (F0 m 78 ls []) := by
  unfold f_X9_node_78 at hF
  refine lv_iconst (v := 0) X.1 X.2.1 dX9_node_78 (by decide) ?_
  exact w_X9_node_79 X hr  S (lv_sub hl [0, 1, 2, 3, 4, 5, 6] rfl) hF
def f_X9_node (this : Nat) (p0 : Int32) (p1 : Int32) (p2 : Int32) (p3 : Int32) (p4 : Int32) (h : Hp) : Option (Int32 × Hp) :=
  (getI h (some this) 9 9).bind fun x1 =>
  bnd (f_X9_in p0 0 (x1 - 1) h) fun x2 h3 =>
  if x2 = 0 then
    f_X9_node_24 h3
  else
    bnd (f_X9_in p1 0 12 h3) fun x6 h7 =>
    if ¬ x6 = 0 then
      (getR h7 (some this) 9 2).bind fun x10 =>
      (aldI h7 x10 11 p0).bind fun x11 =>
      if p1 = 1 then
        f_X9_node_74 (some this) p0 p1 p2 p3 p4 (x11 - 1) h7
      else
        if ¬ p1 = 0 then
          bnd (f_X9_in p2 0 (x11 - 1) h7) fun x14 h15 =>
          if x14 = 0 then
            f_X9_node_78 (some this) p0 p1 p2 p3 p4 (x11 - 1) h15
          else
            f_X9_node_74 (some this) p0 p1 p2 p3 p4 (x11 - 1) h15
        else
          (getR h7 (some this) 9 0).bind fun x18 =>
          (aldI h7 x18 11 p0).bind fun x19 =>
          bnd (f_X9_in p2 0 (x19 - 1) h7) fun x20 h21 =>
          if x20 = 0 then
            f_X9_node_78 (some this) p0 p1 p2 p3 p4 (x11 - 1) h21
          else
            f_X9_node_74 (some this) p0 p1 p2 p3 p4 (x11 - 1) h21
    else
      f_X9_node_24 h7
theorem mi_X9_node : ab_MI yX9_node cX9_node 8 (some .int) 5 := ⟨lc_yX9_node, lz_RX9, by decide, by decide, by decide +kernel⟩
set_option maxHeartbeats 4000000 in
set_option maxRecDepth 100000 in
theorem c_X9_node (l : Launch) (D : va_G) (cA : Nat → ClassId) (sz : Nat) {this : Nat} {p0 : Int32} {p1 : Int32} {p2 : Int32} {p3 : Int32} {p4 : Int32} {h hh : Hp} {rr : Int32} (hF : f_X9_node this p0 p1 p2 p3 p4 h = some (rr, hh)) : ab_C l D cA sz yX9_node cX9_node 8 (some .int) 1 0 0 [.ref this, .int p0, .int p1, .int p2, .int p3, .int p4] h (some (.int rr)) hh := by
  refine Met.ofW (cc := cX9_node) (maxL := 8) (ret := (some .int)) (by decide) rfl ?_
  intro p e s m args below meth c s₁ B hml hv
  obtain ⟨rfl, hT, hR⟩ := hv
  have X : ab_X p s m _ meth c cX9_node 8 RX9 D cA sz := (ab_enter B hml hT hR).1
  have S := (ab_enter B hml hT hR).2
  have hr := B.returns
  obtain ⟨ls, hls, hl⟩ := ab_entry m [.ref this, .int p0, .int p1, .int p2, .int p3, .int p4] 8 (lv := [(0, .ref this), (1, .int p0), (2, .int p1), (3, .int p2), (4, .int p3), (5, .int p4)]) (by simp [lg_sl, ab_cat, ab_cI, ab_cJ, ab_cD, ab_cF, ab_cA]) (by simp [lv_args, ab_cat, ab_cI, ab_cJ, ab_cD, ab_cF, ab_cA])
  rw [hls]
  have hl : lv_has ls 8 [(0, va_rf (some this)), (1, .int p0), (2, .int p1), (3, .int p2), (4, .int p3), (5, .int p4)] := hl
  unfold f_X9_node at hF
  show W p l e (ab_rm 1 0 0) s m _ below meth c s.heap [] 0 0 _ _
  refine lv_iload_n X.1 X.2.1 dX9_node_0 rfl (lv_at hl 1 rfl) ?_
  refine lv_iconst (v := 0) X.1 X.2.1 dX9_node_1 (by decide) ?_
  refine ab_aload_n X dX9_node_2 rfl (lv_at hl 0 rfl) ?_
  refine ab_getI X S hF fi_9_9 lf_X9_347 dX9_node_3 (fun x1 hF => ?_)
  refine lv_iconst (v := 1) X.1 X.2.1 dX9_node_6 (by decide) ?_
  refine lv_isub X.1 X.2.1 dX9_node_7 ?_
  obtain ⟨x2, h3, e4, hF⟩ := bnd_out hF
  refine ab_callSi X S (c_X9_in l D cA sz e4) mi_X9_in lm_X9_343 lt_yX9_in (As := [.int p0, .int 0, .int (x1 - 1)]) (rest := []) rfl ⟨by decide, by decide⟩ ⟨(by decide), (by decide)⟩ hl.1 rfl (by simp [ab_cat, ab_cI, ab_cJ, ab_cD, ab_cF]) dX9_node_8 (fun H1 locs1 S => ?_)
  refine lv_if_eq (tgt := 24) X.1 X.2.1 dX9_node_11 (by decide) (fun c5 => ?_) (fun c5 => ?_)
  · have hF := ab_pos c5 hF
    exact w_X9_node_24 X hr  S (lv_sub hl [] rfl) hF
  · have hF := ab_neg c5 hF
    refine lv_iload_n X.1 X.2.1 dX9_node_14 rfl (lv_at hl 2 rfl) ?_
    refine lv_iconst (v := 0) X.1 X.2.1 dX9_node_15 (by decide) ?_
    refine lv_bipush (v := 12) X.1 X.2.1 dX9_node_16 (by decide) ?_
    obtain ⟨x6, h7, e8, hF⟩ := bnd_out hF
    refine ab_callSi X S (c_X9_in l D cA sz e8) mi_X9_in lm_X9_343 lt_yX9_in (As := [.int p1, .int 0, .int 12]) (rest := []) rfl ⟨by decide, by decide⟩ ⟨(by decide), (by decide)⟩ hl.1 rfl (by simp [ab_cat, ab_cI, ab_cJ, ab_cD, ab_cF]) dX9_node_18 (fun H1 locs1 S => ?_)
    refine lv_if_ne (tgt := 26) X.1 X.2.1 dX9_node_21 (by decide) (fun c9 => ?_) (fun c9 => ?_)
    · have hF := ab_pos c9 hF
      refine ab_aload_n X dX9_node_26 rfl (lv_at hl 0 rfl) ?_
      refine ab_getR X S hF fi_9_2 lf_X9_18 dX9_node_27 (fun x10 hF => ?_)
      refine lv_iload_n X.1 X.2.1 dX9_node_30 rfl (lv_at hl 1 rfl) ?_
      refine ab_aldI X S hF dX9_node_31 (fun x11 hF => ?_)
      refine lv_iconst (v := 1) X.1 X.2.1 dX9_node_32 (by decide) ?_
      refine lv_isub X.1 X.2.1 dX9_node_33 ?_
      refine lv_istore (lv' := [(6, .int (x11 - 1)), (0, va_rf (some this)), (1, .int p0), (2, .int p1), (3, .int p2), (4, .int p3), (5, .int p4)]) X.1 X.2.1 dX9_node_34 hl (by decide) (by simp [ab_cat, ab_cI, ab_cJ, ab_cD, ab_cF]) (fun ls hl => ?_)
      refine lv_iload_n X.1 X.2.1 dX9_node_36 rfl (lv_at hl 3 rfl) ?_
      refine lv_iconst (v := 1) X.1 X.2.1 dX9_node_37 (by decide) ?_
      refine lv_icmp_eq (tgt := 74) X.1 X.2.1 dX9_node_38 (by decide) (fun c12 => ?_) (fun c12 => ?_)
      · have hF := ab_pos c12 hF
        exact w_X9_node_74 X hr  S (lv_sub hl [1, 2, 3, 4, 5, 6, 0] rfl) hF
      · have hF := ab_neg c12 hF
        refine lv_iload_n X.1 X.2.1 dX9_node_41 rfl (lv_at hl 3 rfl) ?_
        refine lv_if_ne (tgt := 64) X.1 X.2.1 dX9_node_42 (by decide) (fun c13 => ?_) (fun c13 => ?_)
        · have hF := ab_pos c13 hF
          refine lv_iload_n X.1 X.2.1 dX9_node_64 rfl (lv_at hl 4 rfl) ?_
          refine lv_iconst (v := 0) X.1 X.2.1 dX9_node_65 (by decide) ?_
          refine lv_iload X.1 X.2.1 dX9_node_66 (lv_at hl 0 rfl) ?_
          obtain ⟨x14, h15, e16, hF⟩ := bnd_out hF
          refine ab_callSi X S (c_X9_in l D cA sz e16) mi_X9_in lm_X9_343 lt_yX9_in (As := [.int p2, .int 0, .int (x11 - 1)]) (rest := []) rfl ⟨by decide, by decide⟩ ⟨(by decide), (by decide)⟩ hl.1 rfl (by simp [ab_cat, ab_cI, ab_cJ, ab_cD, ab_cF]) dX9_node_68 (fun H1 locs1 S => ?_)
          refine lv_if_eq (tgt := 78) X.1 X.2.1 dX9_node_71 (by decide) (fun c17 => ?_) (fun c17 => ?_)
          · have hF := ab_pos c17 hF
            exact w_X9_node_78 X hr  S (lv_sub hl [1, 2, 3, 4, 5, 6, 0] rfl) hF
          · have hF := ab_neg c17 hF
            exact w_X9_node_74 X hr  S (lv_sub hl [1, 2, 3, 4, 5, 6, 0] rfl) hF
        · have hF := ab_neg (fun q => q c13) hF
          refine lv_iload_n X.1 X.2.1 dX9_node_45 rfl (lv_at hl 4 rfl) ?_
          refine lv_iconst (v := 0) X.1 X.2.1 dX9_node_46 (by decide) ?_
          refine ab_aload_n X dX9_node_47 rfl (lv_at hl 1 rfl) ?_
          refine ab_getR X S hF fi_9_0 lf_X9_9 dX9_node_48 (fun x18 hF => ?_)
          refine lv_iload_n X.1 X.2.1 dX9_node_51 rfl (lv_at hl 2 rfl) ?_
          refine ab_aldI X S hF dX9_node_52 (fun x19 hF => ?_)
          refine lv_iconst (v := 1) X.1 X.2.1 dX9_node_53 (by decide) ?_
          refine lv_isub X.1 X.2.1 dX9_node_54 ?_
          obtain ⟨x20, h21, e22, hF⟩ := bnd_out hF
          refine ab_callSi X S (c_X9_in l D cA sz e22) mi_X9_in lm_X9_343 lt_yX9_in (As := [.int p2, .int 0, .int (x19 - 1)]) (rest := []) rfl ⟨by decide, by decide⟩ ⟨(by decide), (by decide)⟩ hl.1 rfl (by simp [ab_cat, ab_cI, ab_cJ, ab_cD, ab_cF]) dX9_node_55 (fun H1 locs1 S => ?_)
          refine lv_if_eq (tgt := 78) X.1 X.2.1 dX9_node_58 (by decide) (fun c23 => ?_) (fun c23 => ?_)
          · have hF := ab_pos c23 hF
            exact w_X9_node_78 X hr  S (lv_sub hl [1, 2, 3, 4, 5, 6, 0] rfl) hF
          · have hF := ab_neg c23 hF
            refine lv_goto (tgt := 74) X.1 X.2.1 dX9_node_61 (by decide) ?_
            exact w_X9_node_74 X hr  S (lv_sub hl [1, 2, 3, 4, 5, 6, 0] rfl) hF
    · have hF := ab_neg (fun q => q c9) hF
      exact w_X9_node_24 X hr  S (lv_sub hl [] rfl) hF
def f_X9_side_46   (h : Hp) : Option (Int32 × Hp) :=
  some ((-1), h)
set_option maxHeartbeats 4000000 in
set_option maxRecDepth 100000 in
theorem w_X9_side_46 {p : Program} {l : Launch} {e : Env} {s : State} {m : MethodId} {args : Array Value} {below : List Frame} {meth : Method} {c : Code} {D : va_G} {cA : Nat → ClassId} {sz : Nat} {rr : Int32} {hh : Hp}  (X : ab_X p s m args meth c cX9_side 5 RX9 D cA sz) (hr : meth.sig.returnType = (some .int))  {H : Heap} {locs : List Loc} {ls : Array Slot}  {h : Hp} (S : ab_H D cA sz h s H locs) (hl : lv_has ls 5 []) (hF : f_X9_side_46  h = some (rr, hh)) : W p l e (ab_rm 1 0 0) s m args below meth c H locs 0 0 (MQ below (ab_Q D cA sz (some (.int rr)) hh) args s 0 0 (fun q => sz ≤ q)) (F0 m 46 ls []) := by
  unfold f_X9_side_46 at hF
  refine lv_iconst (v := (-1)) X.1 X.2.1 dX9_side_46 (by decide) ?_
  exact ab_iret X S hr hF dX9_side_47
def f_X9_side_51  : Nat → Option Nat → Int32 → Int32 → Int32 → Int32 → Hp → Option (Int32 × Hp)
  | 0, _, _, _, _, _, _ => none
  | n + 1, v0, v1, v2, v3, v4, h => (getI h v0 9 45).bind fun x1 =>
    if x1 ≤ v4 then
      (getR h v0 9 3).bind fun x3 =>
      (astI h x3 ((6 * v1) + v2) v3).bind fun h4 =>
      some (1, h4)
    else
      (getR h v0 9 15).bind fun x5 =>
      (aldI h x5 11 v4).bind fun x6 =>
      if ¬ x6 = v1 then
        f_X9_side_51 n v0 v1 v2 v3 (v4 + 1) h
      else
        some ((-2), h)
set_option maxHeartbeats 4000000 in
set_option maxRecDepth 100000 in
theorem w_X9_side_51 {p : Program} {l : Launch} {e : Env} {s : State} {m : MethodId} {args : Array Value} {below : List Frame} {meth : Method} {c : Code} {D : va_G} {cA : Nat → ClassId} {sz : Nat} {rr : Int32} {hh : Hp}  (X : ab_X p s m args meth c cX9_side 5 RX9 D cA sz) (hr : meth.sig.returnType = (some .int))  (n : Nat) : ∀ (v0 : Option Nat) (v1 : Int32) (v2 : Int32) (v3 : Int32) (v4 : Int32) (h : Hp) (H : Heap) (locs : List Loc) (ls : Array Slot), ab_H D cA sz h s H locs → lv_has ls 5 [(0, va_rf v0), (1, .int v1), (2, .int v2), (3, .int v3), (4, .int v4)] → f_X9_side_51 n v0 v1 v2 v3 v4 h = some (rr, hh) → W p l e (ab_rm 1 0 0) s m args below meth c H locs 0 0 (MQ below (ab_Q D cA sz (some (.int rr)) hh) args s 0 0 (fun q => sz ≤ q)) (F0 m 51 ls []) := by
  induction n with
  | zero => intro v0 v1 v2 v3 v4 h H locs ls S hl hF; cases hF
  | succ n ih =>
    intro v0 v1 v2 v3 v4 h H locs ls S hl hF
    rw [f_X9_side_51] at hF
    refine lv_iload X.1 X.2.1 dX9_side_51 (lv_at hl 4 rfl) ?_
    refine ab_aload_n X dX9_side_53 rfl (lv_at hl 0 rfl) ?_
    refine ab_getI X S hF fi_9_45 lf_X9_361 dX9_side_54 (fun x1 hF => ?_)
    refine lv_icmp_ge (tgt := 80) X.1 X.2.1 dX9_side_57 (by decide) (fun c2 => ?_) (fun c2 => ?_)
    · have hF := ab_pos c2 hF
      refine ab_aload_n X dX9_side_80 rfl (lv_at hl 0 rfl) ?_
      refine ab_getR X S hF fi_9_3 lf_X9_21 dX9_side_81 (fun x3 hF => ?_)
      refine lv_bipush (v := 6) X.1 X.2.1 dX9_side_84 (by decide) ?_
      refine lv_iload_n X.1 X.2.1 dX9_side_86 rfl (lv_at hl 1 rfl) ?_
      refine lv_imul X.1 X.2.1 dX9_side_87 ?_
      refine lv_iload_n X.1 X.2.1 dX9_side_88 rfl (lv_at hl 2 rfl) ?_
      refine lv_iadd X.1 X.2.1 dX9_side_89 ?_
      refine lv_iload_n X.1 X.2.1 dX9_side_90 rfl (lv_at hl 3 rfl) ?_
      refine ab_astI X S hF dX9_side_91 (fun h4 H1 locs1 hF S => ?_)
      refine lv_iconst (v := 1) X.1 X.2.1 dX9_side_92 (by decide) ?_
      exact ab_iret X S hr hF dX9_side_93
    · have hF := ab_neg c2 hF
      refine ab_aload_n X dX9_side_60 rfl (lv_at hl 0 rfl) ?_
      refine ab_getR X S hF fi_9_15 lf_X9_52 dX9_side_61 (fun x5 hF => ?_)
      refine lv_iload X.1 X.2.1 dX9_side_64 (lv_at hl 4 rfl) ?_
      refine ab_aldI X S hF dX9_side_66 (fun x6 hF => ?_)
      refine lv_iload_n X.1 X.2.1 dX9_side_67 rfl (lv_at hl 1 rfl) ?_
      refine lv_icmp_ne (tgt := 74) X.1 X.2.1 dX9_side_68 (by decide) (fun c7 => ?_) (fun c7 => ?_)
      · have hF := ab_pos c7 hF
        refine lv_iinc (v := v4 + 1) (lv' := [(4, .int (v4 + 1)), (0, va_rf v0), (1, .int v1), (2, .int v2), (3, .int v3)]) X.1 X.2.1 dX9_side_74 hl (k := 4) rfl (by rfl) (by decide) (by simp [ab_cat, ab_cI, ab_cJ, ab_cD, ab_cF]) (fun ls hl => ?_)
        refine lv_goto (tgt := 51) X.1 X.2.1 dX9_side_77 (by decide) ?_
        exact ih _ _ _ _ _ _ _ _ _ S (lv_sub hl [1, 2, 3, 4, 0] rfl) hF
      · have hF := ab_neg (fun q => q c7) hF
        refine lv_bipush (v := (-2)) X.1 X.2.1 dX9_side_71 (by decide) ?_
        exact ab_iret X S hr hF dX9_side_73
def f_X9_side (this : Nat) (p0 : Int32) (p1 : Int32) (p2 : Int32) (h : Hp) : Option (Int32 × Hp) :=
  (getI h (some this) 9 9).bind fun x1 =>
  bnd (f_X9_in p0 0 (x1 - 1) h) fun x2 h3 =>
  if x2 = 0 then
    f_X9_side_46 h3
  else
    (getR h3 (some this) 9 0).bind fun x6 =>
    (aldI h3 x6 11 p0).bind fun x7 =>
    bnd (f_X9_in p1 0 (x7 - 1) h3) fun x8 h9 =>
    if x8 = 0 then
      f_X9_side_46 h9
    else
      (getR h9 (some this) 9 2).bind fun x12 =>
      (aldI h9 x12 11 p0).bind fun x13 =>
      bnd (f_X9_in p2 0 (x13 - 1) h9) fun x14 h15 =>
      if ¬ x14 = 0 then
        f_X9_side_51 fuelN (some this) p0 p1 p2 0 h15
      else
        f_X9_side_46 h15
theorem mi_X9_side : ab_MI yX9_side cX9_side 5 (some .int) 3 := ⟨lc_yX9_side, lz_RX9, by decide, by decide, by decide +kernel⟩
set_option maxHeartbeats 4000000 in
set_option maxRecDepth 100000 in
theorem c_X9_side (l : Launch) (D : va_G) (cA : Nat → ClassId) (sz : Nat) {this : Nat} {p0 : Int32} {p1 : Int32} {p2 : Int32} {h hh : Hp} {rr : Int32} (hF : f_X9_side this p0 p1 p2 h = some (rr, hh)) : ab_C l D cA sz yX9_side cX9_side 5 (some .int) 1 0 0 [.ref this, .int p0, .int p1, .int p2] h (some (.int rr)) hh := by
  refine Met.ofW (cc := cX9_side) (maxL := 5) (ret := (some .int)) (by decide) rfl ?_
  intro p e s m args below meth c s₁ B hml hv
  obtain ⟨rfl, hT, hR⟩ := hv
  have X : ab_X p s m _ meth c cX9_side 5 RX9 D cA sz := (ab_enter B hml hT hR).1
  have S := (ab_enter B hml hT hR).2
  have hr := B.returns
  obtain ⟨ls, hls, hl⟩ := ab_entry m [.ref this, .int p0, .int p1, .int p2] 5 (lv := [(0, .ref this), (1, .int p0), (2, .int p1), (3, .int p2)]) (by simp [lg_sl, ab_cat, ab_cI, ab_cJ, ab_cD, ab_cF, ab_cA]) (by simp [lv_args, ab_cat, ab_cI, ab_cJ, ab_cD, ab_cF, ab_cA])
  rw [hls]
  have hl : lv_has ls 5 [(0, va_rf (some this)), (1, .int p0), (2, .int p1), (3, .int p2)] := hl
  unfold f_X9_side at hF
  show W p l e (ab_rm 1 0 0) s m _ below meth c s.heap [] 0 0 _ _
  refine lv_iload_n X.1 X.2.1 dX9_side_0 rfl (lv_at hl 1 rfl) ?_
  refine lv_iconst (v := 0) X.1 X.2.1 dX9_side_1 (by decide) ?_
  refine ab_aload_n X dX9_side_2 rfl (lv_at hl 0 rfl) ?_
  refine ab_getI X S hF fi_9_9 lf_X9_347 dX9_side_3 (fun x1 hF => ?_)
  refine lv_iconst (v := 1) X.1 X.2.1 dX9_side_6 (by decide) ?_
  refine lv_isub X.1 X.2.1 dX9_side_7 ?_
  obtain ⟨x2, h3, e4, hF⟩ := bnd_out hF
  refine ab_callSi X S (c_X9_in l D cA sz e4) mi_X9_in lm_X9_343 lt_yX9_in (As := [.int p0, .int 0, .int (x1 - 1)]) (rest := []) rfl ⟨by decide, by decide⟩ ⟨(by decide), (by decide)⟩ hl.1 rfl (by simp [ab_cat, ab_cI, ab_cJ, ab_cD, ab_cF]) dX9_side_8 (fun H1 locs1 S => ?_)
  refine lv_if_eq (tgt := 46) X.1 X.2.1 dX9_side_11 (by decide) (fun c5 => ?_) (fun c5 => ?_)
  · have hF := ab_pos c5 hF
    exact w_X9_side_46 X hr  S (lv_sub hl [] rfl) hF
  · have hF := ab_neg c5 hF
    refine lv_iload_n X.1 X.2.1 dX9_side_14 rfl (lv_at hl 2 rfl) ?_
    refine lv_iconst (v := 0) X.1 X.2.1 dX9_side_15 (by decide) ?_
    refine ab_aload_n X dX9_side_16 rfl (lv_at hl 0 rfl) ?_
    refine ab_getR X S hF fi_9_0 lf_X9_9 dX9_side_17 (fun x6 hF => ?_)
    refine lv_iload_n X.1 X.2.1 dX9_side_20 rfl (lv_at hl 1 rfl) ?_
    refine ab_aldI X S hF dX9_side_21 (fun x7 hF => ?_)
    refine lv_iconst (v := 1) X.1 X.2.1 dX9_side_22 (by decide) ?_
    refine lv_isub X.1 X.2.1 dX9_side_23 ?_
    obtain ⟨x8, h9, e10, hF⟩ := bnd_out hF
    refine ab_callSi X S (c_X9_in l D cA sz e10) mi_X9_in lm_X9_343 lt_yX9_in (As := [.int p1, .int 0, .int (x7 - 1)]) (rest := []) rfl ⟨by decide, by decide⟩ ⟨(by decide), (by decide)⟩ hl.1 rfl (by simp [ab_cat, ab_cI, ab_cJ, ab_cD, ab_cF]) dX9_side_24 (fun H1 locs1 S => ?_)
    refine lv_if_eq (tgt := 46) X.1 X.2.1 dX9_side_27 (by decide) (fun c11 => ?_) (fun c11 => ?_)
    · have hF := ab_pos c11 hF
      exact w_X9_side_46 X hr  S (lv_sub hl [] rfl) hF
    · have hF := ab_neg c11 hF
      refine lv_iload_n X.1 X.2.1 dX9_side_30 rfl (lv_at hl 3 rfl) ?_
      refine lv_iconst (v := 0) X.1 X.2.1 dX9_side_31 (by decide) ?_
      refine ab_aload_n X dX9_side_32 rfl (lv_at hl 0 rfl) ?_
      refine ab_getR X S hF fi_9_2 lf_X9_18 dX9_side_33 (fun x12 hF => ?_)
      refine lv_iload_n X.1 X.2.1 dX9_side_36 rfl (lv_at hl 1 rfl) ?_
      refine ab_aldI X S hF dX9_side_37 (fun x13 hF => ?_)
      refine lv_iconst (v := 1) X.1 X.2.1 dX9_side_38 (by decide) ?_
      refine lv_isub X.1 X.2.1 dX9_side_39 ?_
      obtain ⟨x14, h15, e16, hF⟩ := bnd_out hF
      refine ab_callSi X S (c_X9_in l D cA sz e16) mi_X9_in lm_X9_343 lt_yX9_in (As := [.int p2, .int 0, .int (x13 - 1)]) (rest := []) rfl ⟨by decide, by decide⟩ ⟨(by decide), (by decide)⟩ hl.1 rfl (by simp [ab_cat, ab_cI, ab_cJ, ab_cD, ab_cF]) dX9_side_40 (fun H1 locs1 S => ?_)
      refine lv_if_ne (tgt := 48) X.1 X.2.1 dX9_side_43 (by decide) (fun c17 => ?_) (fun c17 => ?_)
      · have hF := ab_pos c17 hF
        refine lv_iconst (v := 0) X.1 X.2.1 dX9_side_48 (by decide) ?_
        refine lv_istore (lv' := [(4, .int 0), (0, va_rf (some this)), (1, .int p0), (2, .int p1), (3, .int p2)]) X.1 X.2.1 dX9_side_49 hl (by decide) (by simp [ab_cat, ab_cI, ab_cJ, ab_cD, ab_cF]) (fun ls hl => ?_)
        exact w_X9_side_51 X hr  fuelN _ _ _ _ _ _ _ _ _ S (lv_sub hl [1, 2, 3, 4, 0] rfl) hF
      · have hF := ab_neg (fun q => q c17) hF
        exact w_X9_side_46 X hr  S (lv_sub hl [] rfl) hF
def f_X9_signal (this : Nat) (p0 : Int32) (h : Hp) : Option (Int32 × Hp) :=
  bnd (f_X9_in p0 0 1 h) fun x1 h2 =>
  if ¬ x1 = 0 then
    (getI h2 (some this) 9 14).bind fun x5 =>
    if ¬ x5 = 8 then
      (getR h2 (some this) 9 10).bind fun x7 =>
      (getI h2 (some this) 9 14).bind fun x8 =>
      (astI h2 x7 x8 p0).bind fun h9 =>
      (getI h9 (some this) 9 14).bind fun x10 =>
      (putI h9 (some this) 9 14 (x10 + 1)).bind fun h11 =>
      (getI h11 (some this) 9 14).bind fun x12 =>
      some (x12 - 1, h11)
    else
      some ((-3), h2)
  else
    some ((-1), h2)
theorem mi_X9_signal : ab_MI yX9_signal cX9_signal 2 (some .int) 1 := ⟨lc_yX9_signal, lz_RX9, by decide, by decide, by decide +kernel⟩
set_option maxHeartbeats 4000000 in
set_option maxRecDepth 100000 in
theorem c_X9_signal (l : Launch) (D : va_G) (cA : Nat → ClassId) (sz : Nat) {this : Nat} {p0 : Int32} {h hh : Hp} {rr : Int32} (hF : f_X9_signal this p0 h = some (rr, hh)) : ab_C l D cA sz yX9_signal cX9_signal 2 (some .int) 1 0 0 [.ref this, .int p0] h (some (.int rr)) hh := by
  refine Met.ofW (cc := cX9_signal) (maxL := 2) (ret := (some .int)) (by decide) rfl ?_
  intro p e s m args below meth c s₁ B hml hv
  obtain ⟨rfl, hT, hR⟩ := hv
  have X : ab_X p s m _ meth c cX9_signal 2 RX9 D cA sz := (ab_enter B hml hT hR).1
  have S := (ab_enter B hml hT hR).2
  have hr := B.returns
  obtain ⟨ls, hls, hl⟩ := ab_entry m [.ref this, .int p0] 2 (lv := [(0, .ref this), (1, .int p0)]) (by simp [lg_sl, ab_cat, ab_cI, ab_cJ, ab_cD, ab_cF, ab_cA]) (by simp [lv_args, ab_cat, ab_cI, ab_cJ, ab_cD, ab_cF, ab_cA])
  rw [hls]
  have hl : lv_has ls 2 [(0, va_rf (some this)), (1, .int p0)] := hl
  unfold f_X9_signal at hF
  show W p l e (ab_rm 1 0 0) s m _ below meth c s.heap [] 0 0 _ _
  refine lv_iload_n X.1 X.2.1 dX9_signal_0 rfl (lv_at hl 1 rfl) ?_
  refine lv_iconst (v := 0) X.1 X.2.1 dX9_signal_1 (by decide) ?_
  refine lv_iconst (v := 1) X.1 X.2.1 dX9_signal_2 (by decide) ?_
  obtain ⟨x1, h2, e3, hF⟩ := bnd_out hF
  refine ab_callSi X S (c_X9_in l D cA sz e3) mi_X9_in lm_X9_343 lt_yX9_in (As := [.int p0, .int 0, .int 1]) (rest := []) rfl ⟨by decide, by decide⟩ ⟨(by decide), (by decide)⟩ hl.1 rfl (by simp [ab_cat, ab_cI, ab_cJ, ab_cD, ab_cF]) dX9_signal_3 (fun H1 locs1 S => ?_)
  refine lv_if_ne (tgt := 11) X.1 X.2.1 dX9_signal_6 (by decide) (fun c4 => ?_) (fun c4 => ?_)
  · have hF := ab_pos c4 hF
    refine ab_aload_n X dX9_signal_11 rfl (lv_at hl 0 rfl) ?_
    refine ab_getI X S hF fi_9_14 lf_X9_358 dX9_signal_12 (fun x5 hF => ?_)
    refine lv_bipush (v := 8) X.1 X.2.1 dX9_signal_15 (by decide) ?_
    refine lv_icmp_ne (tgt := 23) X.1 X.2.1 dX9_signal_17 (by decide) (fun c6 => ?_) (fun c6 => ?_)
    · have hF := ab_pos c6 hF
      refine ab_aload_n X dX9_signal_23 rfl (lv_at hl 0 rfl) ?_
      refine ab_getR X S hF fi_9_10 lf_X9_40 dX9_signal_24 (fun x7 hF => ?_)
      refine ab_aload_n X dX9_signal_27 rfl (lv_at hl 0 rfl) ?_
      refine ab_getI X S hF fi_9_14 lf_X9_358 dX9_signal_28 (fun x8 hF => ?_)
      refine lv_iload_n X.1 X.2.1 dX9_signal_31 rfl (lv_at hl 1 rfl) ?_
      refine ab_astI X S hF dX9_signal_32 (fun h9 H1 locs1 hF S => ?_)
      refine ab_aload_n X dX9_signal_33 rfl (lv_at hl 0 rfl) ?_
      refine lv_dup X.1 X.2.1 dX9_signal_34 (by simp [ab_cat, ab_cI, ab_cJ, ab_cD, ab_cF]) ?_
      refine ab_getI X S hF fi_9_14 lf_X9_358 dX9_signal_35 (fun x10 hF => ?_)
      refine lv_iconst (v := 1) X.1 X.2.1 dX9_signal_38 (by decide) ?_
      refine lv_iadd X.1 X.2.1 dX9_signal_39 ?_
      refine ab_putI X S hF fi_9_14 ci_9 (Or.inl rfl) rfl lf_X9_358 dX9_signal_40 (fun h11 H1 locs1 hF S => ?_)
      refine ab_aload_n X dX9_signal_43 rfl (lv_at hl 0 rfl) ?_
      refine ab_getI X S hF fi_9_14 lf_X9_358 dX9_signal_44 (fun x12 hF => ?_)
      refine lv_iconst (v := 1) X.1 X.2.1 dX9_signal_47 (by decide) ?_
      refine lv_isub X.1 X.2.1 dX9_signal_48 ?_
      exact ab_iret X S hr hF dX9_signal_49
    · have hF := ab_neg (fun q => q c6) hF
      refine lv_bipush (v := (-3)) X.1 X.2.1 dX9_signal_20 (by decide) ?_
      exact ab_iret X S hr hF dX9_signal_22
  · have hF := ab_neg (fun q => q c4) hF
    refine lv_iconst (v := (-1)) X.1 X.2.1 dX9_signal_9 (by decide) ?_
    exact ab_iret X S hr hF dX9_signal_10
def f_X9_point_25   (h : Hp) : Option (Int32 × Hp) :=
  some ((-1), h)
set_option maxHeartbeats 4000000 in
set_option maxRecDepth 100000 in
theorem w_X9_point_25 {p : Program} {l : Launch} {e : Env} {s : State} {m : MethodId} {args : Array Value} {below : List Frame} {meth : Method} {c : Code} {D : va_G} {cA : Nat → ClassId} {sz : Nat} {rr : Int32} {hh : Hp}  (X : ab_X p s m args meth c cX9_point 10 RX9 D cA sz) (hr : meth.sig.returnType = (some .int))  {H : Heap} {locs : List Loc} {ls : Array Slot}  {h : Hp} (S : ab_H D cA sz h s H locs) (hl : lv_has ls 10 []) (hF : f_X9_point_25  h = some (rr, hh)) : W p l e (ab_rm 1 0 0) s m args below meth c H locs 0 0 (MQ below (ab_Q D cA sz (some (.int rr)) hh) args s 0 0 (fun q => sz ≤ q)) (F0 m 25 ls []) := by
  unfold f_X9_point_25 at hF
  refine lv_iconst (v := (-1)) X.1 X.2.1 dX9_point_25 (by decide) ?_
  exact ab_iret X S hr hF dX9_point_26
def f_X9_point_71  (v0 : Option Nat) (v1 : Int32) (v4 : Int64) (v6 : Int32) (v7 : Int32) (v8 : UInt64) (h : Hp) : Option (Int32 × Hp) :=
  if ¬ v7 = 16 then
    (getR h v0 9 12).bind fun x2 =>
    (astD h x2 ((16 * v1) + v7) v8).bind fun h3 =>
    (getR h3 v0 9 13).bind fun x4 =>
    bnd (f_X9_number v4 v6 h3) fun x5 h6 =>
    (astD h6 x4 ((16 * v1) + v7) x5).bind fun h8 =>
    (getR h8 v0 9 11).bind fun x9 =>
    (aldI h8 x9 11 v1).bind fun x10 =>
    (astI h8 x9 v1 (x10 + 1)).bind fun h11 =>
    some (v7, h11)
  else
    some ((-3), h)
set_option maxHeartbeats 4000000 in
set_option maxRecDepth 100000 in
theorem w_X9_point_71 {p : Program} {l : Launch} {e : Env} {s : State} {m : MethodId} {args : Array Value} {below : List Frame} {meth : Method} {c : Code} {D : va_G} {cA : Nat → ClassId} {sz : Nat} {rr : Int32} {hh : Hp}  (X : ab_X p s m args meth c cX9_point 10 RX9 D cA sz) (hr : meth.sig.returnType = (some .int))  {H : Heap} {locs : List Loc} {ls : Array Slot} {v0 : Option Nat} {v1 : Int32} {v4 : Int64} {v6 : Int32} {v7 : Int32} {v8 : UInt64} {h : Hp} (S : ab_H D cA sz h s H locs) (hl : lv_has ls 10 [(0, va_rf v0), (1, .int v1), (4, .long v4), (6, .int v6), (7, .int v7), (8, .double v8)]) (hF : f_X9_point_71 v0 v1 v4 v6 v7 v8 h = some (rr, hh)) : W p l e (ab_rm 1 0 0) s m args below meth c H locs 0 0 (MQ below (ab_Q D cA sz (some (.int rr)) hh) args s 0 0 (fun q => sz ≤ q)) (F0 m 71 ls []) := by
  unfold f_X9_point_71 at hF
  refine lv_iload X.1 X.2.1 dX9_point_71 (lv_at hl 4 rfl) ?_
  refine lv_bipush (v := 16) X.1 X.2.1 dX9_point_73 (by decide) ?_
  refine lv_icmp_ne (tgt := 81) X.1 X.2.1 dX9_point_75 (by decide) (fun c1 => ?_) (fun c1 => ?_)
  · have hF := ab_pos c1 hF
    refine ab_aload_n X dX9_point_81 rfl (lv_at hl 0 rfl) ?_
    refine ab_getR X S hF fi_9_12 lf_X9_46 dX9_point_82 (fun x2 hF => ?_)
    refine lv_bipush (v := 16) X.1 X.2.1 dX9_point_85 (by decide) ?_
    refine lv_iload_n X.1 X.2.1 dX9_point_87 rfl (lv_at hl 1 rfl) ?_
    refine lv_imul X.1 X.2.1 dX9_point_88 ?_
    refine lv_iload X.1 X.2.1 dX9_point_89 (lv_at hl 4 rfl) ?_
    refine lv_iadd X.1 X.2.1 dX9_point_91 ?_
    refine lv_dload X.1 X.2.1 dX9_point_92 (lv_at hl 5 rfl) ?_
    refine ab_astD X S hF dX9_point_94 (fun h3 H1 locs1 hF S => ?_)
    refine ab_aload_n X dX9_point_95 rfl (lv_at hl 0 rfl) ?_
    refine ab_getR X S hF fi_9_13 lf_X9_49 dX9_point_96 (fun x4 hF => ?_)
    refine lv_bipush (v := 16) X.1 X.2.1 dX9_point_99 (by decide) ?_
    refine lv_iload_n X.1 X.2.1 dX9_point_101 rfl (lv_at hl 1 rfl) ?_
    refine lv_imul X.1 X.2.1 dX9_point_102 ?_
    refine lv_iload X.1 X.2.1 dX9_point_103 (lv_at hl 4 rfl) ?_
    refine lv_iadd X.1 X.2.1 dX9_point_105 ?_
    refine lv_lload X.1 X.2.1 dX9_point_106 (lv_at hl 2 rfl) ?_
    refine lv_iload X.1 X.2.1 dX9_point_108 (lv_at hl 3 rfl) ?_
    obtain ⟨x5, h6, e7, hF⟩ := bnd_out hF
    refine ab_callSd X S (c_X9_number l D cA sz e7) mi_X9_number lm_X9_354 lt_yX9_number (As := [.long v4, .int v6]) (rest := [.int ((16 * v1) + v7), va_rf x4]) rfl ⟨by decide, by decide⟩ ⟨(by decide), (by decide)⟩ hl.1 rfl (by simp [ab_cat, ab_cI, ab_cJ, ab_cD, ab_cF]) dX9_point_110 (fun H1 locs1 S => ?_)
    refine ab_astD X S hF dX9_point_113 (fun h8 H1 locs1 hF S => ?_)
    refine ab_aload_n X dX9_point_114 rfl (lv_at hl 0 rfl) ?_
    refine ab_getR X S hF fi_9_11 lf_X9_43 dX9_point_115 (fun x9 hF => ?_)
    refine lv_iload_n X.1 X.2.1 dX9_point_118 rfl (lv_at hl 1 rfl) ?_
    refine lv_dup2_11 X.1 X.2.1 dX9_point_119 (by simp [ab_cat, ab_cI, ab_cJ, ab_cD, ab_cF]) (by simp [ab_cat, ab_cI, ab_cJ, ab_cD, ab_cF]) ?_
    refine ab_aldI X S hF dX9_point_120 (fun x10 hF => ?_)
    refine lv_iconst (v := 1) X.1 X.2.1 dX9_point_121 (by decide) ?_
    refine lv_iadd X.1 X.2.1 dX9_point_122 ?_
    refine ab_astI X S hF dX9_point_123 (fun h11 H1 locs1 hF S => ?_)
    refine lv_iload X.1 X.2.1 dX9_point_124 (lv_at hl 4 rfl) ?_
    exact ab_iret X S hr hF dX9_point_126
  · have hF := ab_neg (fun q => q c1) hF
    refine lv_bipush (v := (-3)) X.1 X.2.1 dX9_point_78 (by decide) ?_
    exact ab_iret X S hr hF dX9_point_80
def f_X9_point (this : Nat) (p0 : Int32) (p1 : Int64) (p2 : Int64) (p3 : Int32) (h : Hp) : Option (Int32 × Hp) :=
  (getI h (some this) 9 14).bind fun x1 =>
  bnd (f_X9_in p0 0 (x1 - 1) h) fun x2 h3 =>
  if x2 = 0 then
    f_X9_point_25 h3
  else
    bnd (f_X9_in p3 0 30 h3) fun x6 h7 =>
    if ¬ x6 = 0 then
      (getR h7 (some this) 9 11).bind fun x10 =>
      (aldI h7 x10 11 p0).bind fun x11 =>
      bnd (f_X9_number p1 p3 h7) fun x12 h13 =>
      if x11 ≤ 0 then
        f_X9_point_71 (some this) p0 p2 p3 x11 x12 h13
      else
        (getR h13 (some this) 9 12).bind fun x16 =>
        (aldD h13 x16 (((16 * p0) + x11) - 1)).bind fun x17 =>
        if 0 < (Op.cmpValue (FP.dcmp x12 x17) CmpOp.g) then
          f_X9_point_71 (some this) p0 p2 p3 x11 x12 h13
        else
          some ((-2), h13)
    else
      f_X9_point_25 h7
theorem mi_X9_point : ab_MI yX9_point cX9_point 10 (some .int) 4 := ⟨lc_yX9_point, lz_RX9, by decide, by decide, by decide +kernel⟩
set_option maxHeartbeats 4000000 in
set_option maxRecDepth 100000 in
theorem c_X9_point (l : Launch) (D : va_G) (cA : Nat → ClassId) (sz : Nat) {this : Nat} {p0 : Int32} {p1 : Int64} {p2 : Int64} {p3 : Int32} {h hh : Hp} {rr : Int32} (hF : f_X9_point this p0 p1 p2 p3 h = some (rr, hh)) : ab_C l D cA sz yX9_point cX9_point 10 (some .int) 1 0 0 [.ref this, .int p0, .long p1, .long p2, .int p3] h (some (.int rr)) hh := by
  refine Met.ofW (cc := cX9_point) (maxL := 10) (ret := (some .int)) (by decide) rfl ?_
  intro p e s m args below meth c s₁ B hml hv
  obtain ⟨rfl, hT, hR⟩ := hv
  have X : ab_X p s m _ meth c cX9_point 10 RX9 D cA sz := (ab_enter B hml hT hR).1
  have S := (ab_enter B hml hT hR).2
  have hr := B.returns
  obtain ⟨ls, hls, hl⟩ := ab_entry m [.ref this, .int p0, .long p1, .long p2, .int p3] 10 (lv := [(0, .ref this), (1, .int p0), (2, .long p1), (4, .long p2), (6, .int p3)]) (by simp [lg_sl, ab_cat, ab_cI, ab_cJ, ab_cD, ab_cF, ab_cA]) (by simp [lv_args, ab_cat, ab_cI, ab_cJ, ab_cD, ab_cF, ab_cA])
  rw [hls]
  have hl : lv_has ls 10 [(0, va_rf (some this)), (1, .int p0), (2, .long p1), (4, .long p2), (6, .int p3)] := hl
  unfold f_X9_point at hF
  show W p l e (ab_rm 1 0 0) s m _ below meth c s.heap [] 0 0 _ _
  refine lv_iload_n X.1 X.2.1 dX9_point_0 rfl (lv_at hl 1 rfl) ?_
  refine lv_iconst (v := 0) X.1 X.2.1 dX9_point_1 (by decide) ?_
  refine ab_aload_n X dX9_point_2 rfl (lv_at hl 0 rfl) ?_
  refine ab_getI X S hF fi_9_14 lf_X9_358 dX9_point_3 (fun x1 hF => ?_)
  refine lv_iconst (v := 1) X.1 X.2.1 dX9_point_6 (by decide) ?_
  refine lv_isub X.1 X.2.1 dX9_point_7 ?_
  obtain ⟨x2, h3, e4, hF⟩ := bnd_out hF
  refine ab_callSi X S (c_X9_in l D cA sz e4) mi_X9_in lm_X9_343 lt_yX9_in (As := [.int p0, .int 0, .int (x1 - 1)]) (rest := []) rfl ⟨by decide, by decide⟩ ⟨(by decide), (by decide)⟩ hl.1 rfl (by simp [ab_cat, ab_cI, ab_cJ, ab_cD, ab_cF]) dX9_point_8 (fun H1 locs1 S => ?_)
  refine lv_if_eq (tgt := 25) X.1 X.2.1 dX9_point_11 (by decide) (fun c5 => ?_) (fun c5 => ?_)
  · have hF := ab_pos c5 hF
    exact w_X9_point_25 X hr  S (lv_sub hl [] rfl) hF
  · have hF := ab_neg c5 hF
    refine lv_iload X.1 X.2.1 dX9_point_14 (lv_at hl 4 rfl) ?_
    refine lv_iconst (v := 0) X.1 X.2.1 dX9_point_16 (by decide) ?_
    refine lv_bipush (v := 30) X.1 X.2.1 dX9_point_17 (by decide) ?_
    obtain ⟨x6, h7, e8, hF⟩ := bnd_out hF
    refine ab_callSi X S (c_X9_in l D cA sz e8) mi_X9_in lm_X9_343 lt_yX9_in (As := [.int p3, .int 0, .int 30]) (rest := []) rfl ⟨by decide, by decide⟩ ⟨(by decide), (by decide)⟩ hl.1 rfl (by simp [ab_cat, ab_cI, ab_cJ, ab_cD, ab_cF]) dX9_point_19 (fun H1 locs1 S => ?_)
    refine lv_if_ne (tgt := 27) X.1 X.2.1 dX9_point_22 (by decide) (fun c9 => ?_) (fun c9 => ?_)
    · have hF := ab_pos c9 hF
      refine ab_aload_n X dX9_point_27 rfl (lv_at hl 0 rfl) ?_
      refine ab_getR X S hF fi_9_11 lf_X9_43 dX9_point_28 (fun x10 hF => ?_)
      refine lv_iload_n X.1 X.2.1 dX9_point_31 rfl (lv_at hl 1 rfl) ?_
      refine ab_aldI X S hF dX9_point_32 (fun x11 hF => ?_)
      refine lv_istore (lv' := [(7, .int x11), (0, va_rf (some this)), (1, .int p0), (2, .long p1), (4, .long p2), (6, .int p3)]) X.1 X.2.1 dX9_point_33 hl (by decide) (by simp [ab_cat, ab_cI, ab_cJ, ab_cD, ab_cF]) (fun ls hl => ?_)
      refine lv_lload_n X.1 X.2.1 dX9_point_35 rfl (lv_at hl 3 rfl) ?_
      refine lv_iload X.1 X.2.1 dX9_point_36 (lv_at hl 5 rfl) ?_
      obtain ⟨x12, h13, e14, hF⟩ := bnd_out hF
      refine ab_callSd X S (c_X9_number l D cA sz e14) mi_X9_number lm_X9_354 lt_yX9_number (As := [.long p1, .int p3]) (rest := []) rfl ⟨by decide, by decide⟩ ⟨(by decide), (by decide)⟩ hl.1 rfl (by simp [ab_cat, ab_cI, ab_cJ, ab_cD, ab_cF]) dX9_point_38 (fun H1 locs1 S => ?_)
      refine lv_dstore (lv' := [(8, .double x12), (7, .int x11), (0, va_rf (some this)), (1, .int p0), (2, .long p1), (4, .long p2), (6, .int p3)]) X.1 X.2.1 dX9_point_41 hl (by decide) (by simp [ab_cat, ab_cI, ab_cJ, ab_cD, ab_cF]) (fun ls hl => ?_)
      refine lv_iload X.1 X.2.1 dX9_point_43 (lv_at hl 1 rfl) ?_
      refine lv_if_le (tgt := 71) X.1 X.2.1 dX9_point_45 (by decide) (fun c15 => ?_) (fun c15 => ?_)
      · have hF := ab_pos c15 hF
        exact w_X9_point_71 X hr  S (lv_sub hl [2, 3, 5, 6, 1, 0] rfl) hF
      · have hF := ab_neg c15 hF
        refine lv_dload X.1 X.2.1 dX9_point_48 (lv_at hl 0 rfl) ?_
        refine ab_aload_n X dX9_point_50 rfl (lv_at hl 2 rfl) ?_
        refine ab_getR X S hF fi_9_12 lf_X9_46 dX9_point_51 (fun x16 hF => ?_)
        refine lv_bipush (v := 16) X.1 X.2.1 dX9_point_54 (by decide) ?_
        refine lv_iload_n X.1 X.2.1 dX9_point_56 rfl (lv_at hl 3 rfl) ?_
        refine lv_imul X.1 X.2.1 dX9_point_57 ?_
        refine lv_iload X.1 X.2.1 dX9_point_58 (lv_at hl 1 rfl) ?_
        refine lv_iadd X.1 X.2.1 dX9_point_60 ?_
        refine lv_iconst (v := 1) X.1 X.2.1 dX9_point_61 (by decide) ?_
        refine lv_isub X.1 X.2.1 dX9_point_62 ?_
        refine ab_aldD X S hF dX9_point_63 (fun x17 hF => ?_)
        refine lv_dcmp X.1 X.2.1 dX9_point_64 ?_
        refine lv_if_gt (tgt := 71) X.1 X.2.1 dX9_point_65 (by decide) (fun c18 => ?_) (fun c18 => ?_)
        · have hF := ab_pos c18 hF
          exact w_X9_point_71 X hr  S (lv_sub hl [2, 3, 5, 6, 1, 0] rfl) hF
        · have hF := ab_neg c18 hF
          refine lv_bipush (v := (-2)) X.1 X.2.1 dX9_point_68 (by decide) ?_
          exact ab_iret X S hr hF dX9_point_70
    · have hF := ab_neg (fun q => q c9) hF
      exact w_X9_point_25 X hr  S (lv_sub hl [] rfl) hF
def f_X9_many_69  (u0 : Int32) (h : Hp) : Option (Int32 × Hp) :=
  some (u0, h)
set_option maxHeartbeats 4000000 in
set_option maxRecDepth 100000 in
theorem w_X9_many_69 {p : Program} {l : Launch} {e : Env} {s : State} {m : MethodId} {args : Array Value} {below : List Frame} {meth : Method} {c : Code} {D : va_G} {cA : Nat → ClassId} {sz : Nat} {rr : Int32} {hh : Hp}  (X : ab_X p s m args meth c cX9_many 2 RX9 D cA sz) (hr : meth.sig.returnType = (some .int))  {H : Heap} {locs : List Loc} {ls : Array Slot} {u0 : Int32} {h : Hp} (S : ab_H D cA sz h s H locs) (hl : lv_has ls 2 []) (hF : f_X9_many_69 u0 h = some (rr, hh)) : W p l e (ab_rm 1 0 0) s m args below meth c H locs 0 0 (MQ below (ab_Q D cA sz (some (.int rr)) hh) args s 0 0 (fun q => sz ≤ q)) (F0 m 69 ls [.int u0]) := by
  unfold f_X9_many_69 at hF
  exact ab_iret X S hr hF dX9_many_69
def f_X9_many (this : Nat) (p0 : Int32) (h : Hp) : Option (Int32 × Hp) :=
  bnd (f_X9_in p0 0 10 h) fun x1 h2 =>
  if ¬ x1 = 0 then
    if ¬ p0 = 0 then
      if ¬ p0 = 1 then
        if ¬ p0 = 2 then
          (getI h2 (some this) 9 9).bind fun x8 =>
          if x8 ≤ (p0 - 3) then
            f_X9_many_69 0 h2
          else
            (getR h2 (some this) 9 2).bind fun x10 =>
            (aldI h2 x10 11 (p0 - 3)).bind fun x11 =>
            f_X9_many_69 x11 h2
        else
          (getI h2 (some this) 9 45).bind fun x12 =>
          f_X9_many_69 x12 h2
      else
        (getI h2 (some this) 9 14).bind fun x13 =>
        f_X9_many_69 x13 h2
    else
      (getI h2 (some this) 9 9).bind fun x14 =>
      f_X9_many_69 x14 h2
  else
    some ((-1), h2)
theorem mi_X9_many : ab_MI yX9_many cX9_many 2 (some .int) 1 := ⟨lc_yX9_many, lz_RX9, by decide, by decide, by decide +kernel⟩
set_option maxHeartbeats 4000000 in
set_option maxRecDepth 100000 in
theorem c_X9_many (l : Launch) (D : va_G) (cA : Nat → ClassId) (sz : Nat) {this : Nat} {p0 : Int32} {h hh : Hp} {rr : Int32} (hF : f_X9_many this p0 h = some (rr, hh)) : ab_C l D cA sz yX9_many cX9_many 2 (some .int) 1 0 0 [.ref this, .int p0] h (some (.int rr)) hh := by
  refine Met.ofW (cc := cX9_many) (maxL := 2) (ret := (some .int)) (by decide) rfl ?_
  intro p e s m args below meth c s₁ B hml hv
  obtain ⟨rfl, hT, hR⟩ := hv
  have X : ab_X p s m _ meth c cX9_many 2 RX9 D cA sz := (ab_enter B hml hT hR).1
  have S := (ab_enter B hml hT hR).2
  have hr := B.returns
  obtain ⟨ls, hls, hl⟩ := ab_entry m [.ref this, .int p0] 2 (lv := [(0, .ref this), (1, .int p0)]) (by simp [lg_sl, ab_cat, ab_cI, ab_cJ, ab_cD, ab_cF, ab_cA]) (by simp [lv_args, ab_cat, ab_cI, ab_cJ, ab_cD, ab_cF, ab_cA])
  rw [hls]
  have hl : lv_has ls 2 [(0, va_rf (some this)), (1, .int p0)] := hl
  unfold f_X9_many at hF
  show W p l e (ab_rm 1 0 0) s m _ below meth c s.heap [] 0 0 _ _
  refine lv_iload_n X.1 X.2.1 dX9_many_0 rfl (lv_at hl 1 rfl) ?_
  refine lv_iconst (v := 0) X.1 X.2.1 dX9_many_1 (by decide) ?_
  refine lv_bipush (v := 10) X.1 X.2.1 dX9_many_2 (by decide) ?_
  obtain ⟨x1, h2, e3, hF⟩ := bnd_out hF
  refine ab_callSi X S (c_X9_in l D cA sz e3) mi_X9_in lm_X9_343 lt_yX9_in (As := [.int p0, .int 0, .int 10]) (rest := []) rfl ⟨by decide, by decide⟩ ⟨(by decide), (by decide)⟩ hl.1 rfl (by simp [ab_cat, ab_cI, ab_cJ, ab_cD, ab_cF]) dX9_many_4 (fun H1 locs1 S => ?_)
  refine lv_if_ne (tgt := 12) X.1 X.2.1 dX9_many_7 (by decide) (fun c4 => ?_) (fun c4 => ?_)
  · have hF := ab_pos c4 hF
    refine lv_iload_n X.1 X.2.1 dX9_many_12 rfl (lv_at hl 1 rfl) ?_
    refine lv_if_ne (tgt := 23) X.1 X.2.1 dX9_many_13 (by decide) (fun c5 => ?_) (fun c5 => ?_)
    · have hF := ab_pos c5 hF
      refine lv_iload_n X.1 X.2.1 dX9_many_23 rfl (lv_at hl 1 rfl) ?_
      refine lv_iconst (v := 1) X.1 X.2.1 dX9_many_24 (by decide) ?_
      refine lv_icmp_ne (tgt := 35) X.1 X.2.1 dX9_many_25 (by decide) (fun c6 => ?_) (fun c6 => ?_)
      · have hF := ab_pos c6 hF
        refine lv_iload_n X.1 X.2.1 dX9_many_35 rfl (lv_at hl 1 rfl) ?_
        refine lv_iconst (v := 2) X.1 X.2.1 dX9_many_36 (by decide) ?_
        refine lv_icmp_ne (tgt := 47) X.1 X.2.1 dX9_many_37 (by decide) (fun c7 => ?_) (fun c7 => ?_)
        · have hF := ab_pos c7 hF
          refine lv_iload_n X.1 X.2.1 dX9_many_47 rfl (lv_at hl 1 rfl) ?_
          refine lv_iconst (v := 3) X.1 X.2.1 dX9_many_48 (by decide) ?_
          refine lv_isub X.1 X.2.1 dX9_many_49 ?_
          refine ab_aload_n X dX9_many_50 rfl (lv_at hl 0 rfl) ?_
          refine ab_getI X S hF fi_9_9 lf_X9_347 dX9_many_51 (fun x8 hF => ?_)
          refine lv_icmp_ge (tgt := 68) X.1 X.2.1 dX9_many_54 (by decide) (fun c9 => ?_) (fun c9 => ?_)
          · have hF := ab_pos c9 hF
            refine lv_iconst (v := 0) X.1 X.2.1 dX9_many_68 (by decide) ?_
            exact w_X9_many_69 X hr  S (lv_sub hl [] rfl) hF
          · have hF := ab_neg c9 hF
            refine ab_aload_n X dX9_many_57 rfl (lv_at hl 0 rfl) ?_
            refine ab_getR X S hF fi_9_2 lf_X9_18 dX9_many_58 (fun x10 hF => ?_)
            refine lv_iload_n X.1 X.2.1 dX9_many_61 rfl (lv_at hl 1 rfl) ?_
            refine lv_iconst (v := 3) X.1 X.2.1 dX9_many_62 (by decide) ?_
            refine lv_isub X.1 X.2.1 dX9_many_63 ?_
            refine ab_aldI X S hF dX9_many_64 (fun x11 hF => ?_)
            refine lv_goto (tgt := 69) X.1 X.2.1 dX9_many_65 (by decide) ?_
            exact w_X9_many_69 X hr  S (lv_sub hl [] rfl) hF
        · have hF := ab_neg (fun q => q c7) hF
          refine ab_aload_n X dX9_many_40 rfl (lv_at hl 0 rfl) ?_
          refine ab_getI X S hF fi_9_45 lf_X9_361 dX9_many_41 (fun x12 hF => ?_)
          refine lv_goto (tgt := 69) X.1 X.2.1 dX9_many_44 (by decide) ?_
          exact w_X9_many_69 X hr  S (lv_sub hl [] rfl) hF
      · have hF := ab_neg (fun q => q c6) hF
        refine ab_aload_n X dX9_many_28 rfl (lv_at hl 0 rfl) ?_
        refine ab_getI X S hF fi_9_14 lf_X9_358 dX9_many_29 (fun x13 hF => ?_)
        refine lv_goto (tgt := 69) X.1 X.2.1 dX9_many_32 (by decide) ?_
        exact w_X9_many_69 X hr  S (lv_sub hl [] rfl) hF
    · have hF := ab_neg (fun q => q c5) hF
      refine ab_aload_n X dX9_many_16 rfl (lv_at hl 0 rfl) ?_
      refine ab_getI X S hF fi_9_9 lf_X9_347 dX9_many_17 (fun x14 hF => ?_)
      refine lv_goto (tgt := 69) X.1 X.2.1 dX9_many_20 (by decide) ?_
      exact w_X9_many_69 X hr  S (lv_sub hl [] rfl) hF
  · have hF := ab_neg (fun q => q c4) hF
    refine lv_iconst (v := (-1)) X.1 X.2.1 dX9_many_10 (by decide) ?_
    exact ab_iret X S hr hF dX9_many_11
def f_X9_isRun (this : Nat) (p0 : Int32) (h : Hp) : Option (Int32 × Hp) :=
  (getI h (some this) 9 45).bind fun x1 =>
  bnd (f_X9_in p0 0 (x1 - 1) h) fun x2 h3 =>
  if x2 = 0 ∨ x2 = 1 then some (x2, h3) else none
theorem mi_X9_isRun : ab_MI yX9_isRun cX9_isRun 2 (some .boolean) 1 := ⟨lc_yX9_isRun, lz_RX9, by decide, by decide, by decide +kernel⟩
set_option maxHeartbeats 4000000 in
set_option maxRecDepth 100000 in
theorem c_X9_isRun (l : Launch) (D : va_G) (cA : Nat → ClassId) (sz : Nat) {this : Nat} {p0 : Int32} {h hh : Hp} {rr : Int32} (hF : f_X9_isRun this p0 h = some (rr, hh)) : ab_C l D cA sz yX9_isRun cX9_isRun 2 (some .boolean) 1 0 0 [.ref this, .int p0] h (some (.int rr)) hh := by
  refine Met.ofW (cc := cX9_isRun) (maxL := 2) (ret := (some .boolean)) (by decide) rfl ?_
  intro p e s m args below meth c s₁ B hml hv
  obtain ⟨rfl, hT, hR⟩ := hv
  have X : ab_X p s m _ meth c cX9_isRun 2 RX9 D cA sz := (ab_enter B hml hT hR).1
  have S := (ab_enter B hml hT hR).2
  have hr := B.returns
  obtain ⟨ls, hls, hl⟩ := ab_entry m [.ref this, .int p0] 2 (lv := [(0, .ref this), (1, .int p0)]) (by simp [lg_sl, ab_cat, ab_cI, ab_cJ, ab_cD, ab_cF, ab_cA]) (by simp [lv_args, ab_cat, ab_cI, ab_cJ, ab_cD, ab_cF, ab_cA])
  rw [hls]
  have hl : lv_has ls 2 [(0, va_rf (some this)), (1, .int p0)] := hl
  unfold f_X9_isRun at hF
  show W p l e (ab_rm 1 0 0) s m _ below meth c s.heap [] 0 0 _ _
  refine lv_iload_n X.1 X.2.1 dX9_isRun_0 rfl (lv_at hl 1 rfl) ?_
  refine lv_iconst (v := 0) X.1 X.2.1 dX9_isRun_1 (by decide) ?_
  refine ab_aload_n X dX9_isRun_2 rfl (lv_at hl 0 rfl) ?_
  refine ab_getI X S hF fi_9_45 lf_X9_361 dX9_isRun_3 (fun x1 hF => ?_)
  refine lv_iconst (v := 1) X.1 X.2.1 dX9_isRun_6 (by decide) ?_
  refine lv_isub X.1 X.2.1 dX9_isRun_7 ?_
  obtain ⟨x2, h3, e4, hF⟩ := bnd_out hF
  refine ab_callSi X S (c_X9_in l D cA sz e4) mi_X9_in lm_X9_343 lt_yX9_in (As := [.int p0, .int 0, .int (x1 - 1)]) (rest := []) rfl ⟨by decide, by decide⟩ ⟨(by decide), (by decide)⟩ hl.1 rfl (by simp [ab_cat, ab_cI, ab_cJ, ab_cD, ab_cF]) dX9_isRun_8 (fun H1 locs1 S => ?_)
  exact ab_zret X S hr hF dX9_isRun_11
def f_X9_run_25   (h : Hp) : Option (Int32 × Hp) :=
  some ((-1), h)
set_option maxHeartbeats 4000000 in
set_option maxRecDepth 100000 in
theorem w_X9_run_25 {p : Program} {l : Launch} {e : Env} {s : State} {m : MethodId} {args : Array Value} {below : List Frame} {meth : Method} {c : Code} {D : va_G} {cA : Nat → ClassId} {sz : Nat} {rr : Int32} {hh : Hp}  (X : ab_X p s m args meth c cX9_run 6 RX9 D cA sz) (hr : meth.sig.returnType = (some .int))  {H : Heap} {locs : List Loc} {ls : Array Slot}  {h : Hp} (S : ab_H D cA sz h s H locs) (hl : lv_has ls 6 []) (hF : f_X9_run_25  h = some (rr, hh)) : W p l e (ab_rm 1 0 0) s m args below meth c H locs 0 0 (MQ below (ab_Q D cA sz (some (.int rr)) hh) args s 0 0 (fun q => sz ≤ q)) (F0 m 25 ls []) := by
  unfold f_X9_run_25 at hF
  refine lv_iconst (v := (-1)) X.1 X.2.1 dX9_run_25 (by decide) ?_
  exact ab_iret X S hr hF dX9_run_26
def f_X9_run_30  : Nat → Option Nat → Int32 → Int64 → Int32 → Int32 → Hp → Option (Int32 × Hp)
  | 0, _, _, _, _, _, _ => none
  | n + 1, v0, v1, v2, v4, v5, h => (getR h v0 9 0).bind fun x1 =>
    (aldI h x1 11 v1).bind fun x2 =>
    if x2 ≤ v5 then
      (getI h v0 9 45).bind fun x4 =>
      if ¬ x4 = 4 then
        (getR h v0 9 15).bind fun x6 =>
        (getI h v0 9 45).bind fun x7 =>
        (astI h x6 x7 v1).bind fun h8 =>
        (getR h8 v0 9 25).bind fun x9 =>
        (getI h8 v0 9 45).bind fun x10 =>
        bnd (f_X9_number v2 v4 h8) fun x11 h12 =>
        (astD h12 x9 x10 x11).bind fun h14 =>
        (getR h14 v0 9 26).bind fun x15 =>
        (getI h14 v0 9 45).bind fun x16 =>
        (astD h14 x15 x16 4593671619917905920).bind fun h17 =>
        (getR h17 v0 9 27).bind fun x18 =>
        (getI h17 v0 9 45).bind fun x19 =>
        (astD h17 x18 x19 4517110426252607488).bind fun h20 =>
        (getI h20 v0 9 45).bind fun x21 =>
        (putI h20 v0 9 45 (x21 + 1)).bind fun h22 =>
        (getI h22 v0 9 45).bind fun x23 =>
        some (x23 - 1, h22)
      else
        some ((-3), h)
    else
      (getR h v0 9 3).bind fun x24 =>
      (aldI h x24 11 ((6 * v1) + v5)).bind fun x25 =>
      if 0 ≤ x25 then
        f_X9_run_30 n v0 v1 v2 v4 (v5 + 1) h
      else
        some ((-2), h)
set_option maxHeartbeats 4000000 in
set_option maxRecDepth 100000 in
theorem w_X9_run_30 {p : Program} {l : Launch} {e : Env} {s : State} {m : MethodId} {args : Array Value} {below : List Frame} {meth : Method} {c : Code} {D : va_G} {cA : Nat → ClassId} {sz : Nat} {rr : Int32} {hh : Hp}  (X : ab_X p s m args meth c cX9_run 6 RX9 D cA sz) (hr : meth.sig.returnType = (some .int))  (n : Nat) : ∀ (v0 : Option Nat) (v1 : Int32) (v2 : Int64) (v4 : Int32) (v5 : Int32) (h : Hp) (H : Heap) (locs : List Loc) (ls : Array Slot), ab_H D cA sz h s H locs → lv_has ls 6 [(0, va_rf v0), (1, .int v1), (2, .long v2), (4, .int v4), (5, .int v5)] → f_X9_run_30 n v0 v1 v2 v4 v5 h = some (rr, hh) → W p l e (ab_rm 1 0 0) s m args below meth c H locs 0 0 (MQ below (ab_Q D cA sz (some (.int rr)) hh) args s 0 0 (fun q => sz ≤ q)) (F0 m 30 ls []) := by
  induction n with
  | zero => intro v0 v1 v2 v4 v5 h H locs ls S hl hF; cases hF
  | succ n ih =>
    intro v0 v1 v2 v4 v5 h H locs ls S hl hF
    rw [f_X9_run_30] at hF
    refine lv_iload X.1 X.2.1 dX9_run_30 (lv_at hl 4 rfl) ?_
    refine ab_aload_n X dX9_run_32 rfl (lv_at hl 0 rfl) ?_
    refine ab_getR X S hF fi_9_0 lf_X9_9 dX9_run_33 (fun x1 hF => ?_)
    refine lv_iload_n X.1 X.2.1 dX9_run_36 rfl (lv_at hl 1 rfl) ?_
    refine ab_aldI X S hF dX9_run_37 (fun x2 hF => ?_)
    refine lv_icmp_ge (tgt := 65) X.1 X.2.1 dX9_run_38 (by decide) (fun c3 => ?_) (fun c3 => ?_)
    · have hF := ab_pos c3 hF
      refine ab_aload_n X dX9_run_65 rfl (lv_at hl 0 rfl) ?_
      refine ab_getI X S hF fi_9_45 lf_X9_361 dX9_run_66 (fun x4 hF => ?_)
      refine lv_iconst (v := 4) X.1 X.2.1 dX9_run_69 (by decide) ?_
      refine lv_icmp_ne (tgt := 76) X.1 X.2.1 dX9_run_70 (by decide) (fun c5 => ?_) (fun c5 => ?_)
      · have hF := ab_pos c5 hF
        refine ab_aload_n X dX9_run_76 rfl (lv_at hl 0 rfl) ?_
        refine ab_getR X S hF fi_9_15 lf_X9_52 dX9_run_77 (fun x6 hF => ?_)
        refine ab_aload_n X dX9_run_80 rfl (lv_at hl 0 rfl) ?_
        refine ab_getI X S hF fi_9_45 lf_X9_361 dX9_run_81 (fun x7 hF => ?_)
        refine lv_iload_n X.1 X.2.1 dX9_run_84 rfl (lv_at hl 1 rfl) ?_
        refine ab_astI X S hF dX9_run_85 (fun h8 H1 locs1 hF S => ?_)
        refine ab_aload_n X dX9_run_86 rfl (lv_at hl 0 rfl) ?_
        refine ab_getR X S hF fi_9_25 lf_X9_83 dX9_run_87 (fun x9 hF => ?_)
        refine ab_aload_n X dX9_run_90 rfl (lv_at hl 0 rfl) ?_
        refine ab_getI X S hF fi_9_45 lf_X9_361 dX9_run_91 (fun x10 hF => ?_)
        refine lv_lload_n X.1 X.2.1 dX9_run_94 rfl (lv_at hl 2 rfl) ?_
        refine lv_iload X.1 X.2.1 dX9_run_95 (lv_at hl 3 rfl) ?_
        obtain ⟨x11, h12, e13, hF⟩ := bnd_out hF
        refine ab_callSd X S (c_X9_number l D cA sz e13) mi_X9_number lm_X9_354 lt_yX9_number (As := [.long v2, .int v4]) (rest := [.int x10, va_rf x9]) rfl ⟨by decide, by decide⟩ ⟨(by decide), (by decide)⟩ hl.1 rfl (by simp [ab_cat, ab_cI, ab_cJ, ab_cD, ab_cF]) dX9_run_97 (fun H1 locs1 S => ?_)
        refine ab_astD X S hF dX9_run_100 (fun h14 H1 locs1 hF S => ?_)
        refine ab_aload_n X dX9_run_101 rfl (lv_at hl 0 rfl) ?_
        refine ab_getR X S hF fi_9_26 lf_X9_86 dX9_run_102 (fun x15 hF => ?_)
        refine ab_aload_n X dX9_run_105 rfl (lv_at hl 0 rfl) ?_
        refine ab_getI X S hF fi_9_45 lf_X9_361 dX9_run_106 (fun x16 hF => ?_)
        refine lv_ldc2d (v := 4593671619917905920) X.1 X.2.1 X.2.2.2.1 (X.2.2.2.2.1 _ ld_X9_324) dX9_run_109 ?_
        refine ab_astD X S hF dX9_run_112 (fun h17 H1 locs1 hF S => ?_)
        refine ab_aload_n X dX9_run_113 rfl (lv_at hl 0 rfl) ?_
        refine ab_getR X S hF fi_9_27 lf_X9_89 dX9_run_114 (fun x18 hF => ?_)
        refine ab_aload_n X dX9_run_117 rfl (lv_at hl 0 rfl) ?_
        refine ab_getI X S hF fi_9_45 lf_X9_361 dX9_run_118 (fun x19 hF => ?_)
        refine lv_ldc2d (v := 4517110426252607488) X.1 X.2.1 X.2.2.2.1 (X.2.2.2.2.1 _ ld_X9_364) dX9_run_121 ?_
        refine ab_astD X S hF dX9_run_124 (fun h20 H1 locs1 hF S => ?_)
        refine ab_aload_n X dX9_run_125 rfl (lv_at hl 0 rfl) ?_
        refine lv_dup X.1 X.2.1 dX9_run_126 (by simp [ab_cat, ab_cI, ab_cJ, ab_cD, ab_cF]) ?_
        refine ab_getI X S hF fi_9_45 lf_X9_361 dX9_run_127 (fun x21 hF => ?_)
        refine lv_iconst (v := 1) X.1 X.2.1 dX9_run_130 (by decide) ?_
        refine lv_iadd X.1 X.2.1 dX9_run_131 ?_
        refine ab_putI X S hF fi_9_45 ci_9 (Or.inl rfl) rfl lf_X9_361 dX9_run_132 (fun h22 H1 locs1 hF S => ?_)
        refine ab_aload_n X dX9_run_135 rfl (lv_at hl 0 rfl) ?_
        refine ab_getI X S hF fi_9_45 lf_X9_361 dX9_run_136 (fun x23 hF => ?_)
        refine lv_iconst (v := 1) X.1 X.2.1 dX9_run_139 (by decide) ?_
        refine lv_isub X.1 X.2.1 dX9_run_140 ?_
        exact ab_iret X S hr hF dX9_run_141
      · have hF := ab_neg (fun q => q c5) hF
        refine lv_bipush (v := (-3)) X.1 X.2.1 dX9_run_73 (by decide) ?_
        exact ab_iret X S hr hF dX9_run_75
    · have hF := ab_neg c3 hF
      refine ab_aload_n X dX9_run_41 rfl (lv_at hl 0 rfl) ?_
      refine ab_getR X S hF fi_9_3 lf_X9_21 dX9_run_42 (fun x24 hF => ?_)
      refine lv_bipush (v := 6) X.1 X.2.1 dX9_run_45 (by decide) ?_
      refine lv_iload_n X.1 X.2.1 dX9_run_47 rfl (lv_at hl 1 rfl) ?_
      refine lv_imul X.1 X.2.1 dX9_run_48 ?_
      refine lv_iload X.1 X.2.1 dX9_run_49 (lv_at hl 4 rfl) ?_
      refine lv_iadd X.1 X.2.1 dX9_run_51 ?_
      refine ab_aldI X S hF dX9_run_52 (fun x25 hF => ?_)
      refine lv_if_ge (tgt := 59) X.1 X.2.1 dX9_run_53 (by decide) (fun c26 => ?_) (fun c26 => ?_)
      · have hF := ab_pos c26 hF
        refine lv_iinc (v := v5 + 1) (lv' := [(5, .int (v5 + 1)), (0, va_rf v0), (1, .int v1), (2, .long v2), (4, .int v4)]) X.1 X.2.1 dX9_run_59 hl (k := 4) rfl (by rfl) (by decide) (by simp [ab_cat, ab_cI, ab_cJ, ab_cD, ab_cF]) (fun ls hl => ?_)
        refine lv_goto (tgt := 30) X.1 X.2.1 dX9_run_62 (by decide) ?_
        exact ih _ _ _ _ _ _ _ _ _ S (lv_sub hl [1, 2, 3, 4, 0] rfl) hF
      · have hF := ab_neg c26 hF
        refine lv_bipush (v := (-2)) X.1 X.2.1 dX9_run_56 (by decide) ?_
        exact ab_iret X S hr hF dX9_run_58
def f_X9_run (this : Nat) (p0 : Int32) (p1 : Int64) (p2 : Int32) (h : Hp) : Option (Int32 × Hp) :=
  (getI h (some this) 9 9).bind fun x1 =>
  bnd (f_X9_in p0 0 (x1 - 1) h) fun x2 h3 =>
  if x2 = 0 then
    f_X9_run_25 h3
  else
    bnd (f_X9_in p2 0 30 h3) fun x6 h7 =>
    if ¬ x6 = 0 then
      f_X9_run_30 fuelN (some this) p0 p1 p2 0 h7
    else
      f_X9_run_25 h7
theorem mi_X9_run : ab_MI yX9_run cX9_run 6 (some .int) 3 := ⟨lc_yX9_run, lz_RX9, by decide, by decide, by decide +kernel⟩
set_option maxHeartbeats 4000000 in
set_option maxRecDepth 100000 in
theorem c_X9_run (l : Launch) (D : va_G) (cA : Nat → ClassId) (sz : Nat) {this : Nat} {p0 : Int32} {p1 : Int64} {p2 : Int32} {h hh : Hp} {rr : Int32} (hF : f_X9_run this p0 p1 p2 h = some (rr, hh)) : ab_C l D cA sz yX9_run cX9_run 6 (some .int) 1 0 0 [.ref this, .int p0, .long p1, .int p2] h (some (.int rr)) hh := by
  refine Met.ofW (cc := cX9_run) (maxL := 6) (ret := (some .int)) (by decide) rfl ?_
  intro p e s m args below meth c s₁ B hml hv
  obtain ⟨rfl, hT, hR⟩ := hv
  have X : ab_X p s m _ meth c cX9_run 6 RX9 D cA sz := (ab_enter B hml hT hR).1
  have S := (ab_enter B hml hT hR).2
  have hr := B.returns
  obtain ⟨ls, hls, hl⟩ := ab_entry m [.ref this, .int p0, .long p1, .int p2] 6 (lv := [(0, .ref this), (1, .int p0), (2, .long p1), (4, .int p2)]) (by simp [lg_sl, ab_cat, ab_cI, ab_cJ, ab_cD, ab_cF, ab_cA]) (by simp [lv_args, ab_cat, ab_cI, ab_cJ, ab_cD, ab_cF, ab_cA])
  rw [hls]
  have hl : lv_has ls 6 [(0, va_rf (some this)), (1, .int p0), (2, .long p1), (4, .int p2)] := hl
  unfold f_X9_run at hF
  show W p l e (ab_rm 1 0 0) s m _ below meth c s.heap [] 0 0 _ _
  refine lv_iload_n X.1 X.2.1 dX9_run_0 rfl (lv_at hl 1 rfl) ?_
  refine lv_iconst (v := 0) X.1 X.2.1 dX9_run_1 (by decide) ?_
  refine ab_aload_n X dX9_run_2 rfl (lv_at hl 0 rfl) ?_
  refine ab_getI X S hF fi_9_9 lf_X9_347 dX9_run_3 (fun x1 hF => ?_)
  refine lv_iconst (v := 1) X.1 X.2.1 dX9_run_6 (by decide) ?_
  refine lv_isub X.1 X.2.1 dX9_run_7 ?_
  obtain ⟨x2, h3, e4, hF⟩ := bnd_out hF
  refine ab_callSi X S (c_X9_in l D cA sz e4) mi_X9_in lm_X9_343 lt_yX9_in (As := [.int p0, .int 0, .int (x1 - 1)]) (rest := []) rfl ⟨by decide, by decide⟩ ⟨(by decide), (by decide)⟩ hl.1 rfl (by simp [ab_cat, ab_cI, ab_cJ, ab_cD, ab_cF]) dX9_run_8 (fun H1 locs1 S => ?_)
  refine lv_if_eq (tgt := 25) X.1 X.2.1 dX9_run_11 (by decide) (fun c5 => ?_) (fun c5 => ?_)
  · have hF := ab_pos c5 hF
    exact w_X9_run_25 X hr  S (lv_sub hl [] rfl) hF
  · have hF := ab_neg c5 hF
    refine lv_iload X.1 X.2.1 dX9_run_14 (lv_at hl 3 rfl) ?_
    refine lv_iconst (v := 0) X.1 X.2.1 dX9_run_16 (by decide) ?_
    refine lv_bipush (v := 30) X.1 X.2.1 dX9_run_17 (by decide) ?_
    obtain ⟨x6, h7, e8, hF⟩ := bnd_out hF
    refine ab_callSi X S (c_X9_in l D cA sz e8) mi_X9_in lm_X9_343 lt_yX9_in (As := [.int p2, .int 0, .int 30]) (rest := []) rfl ⟨by decide, by decide⟩ ⟨(by decide), (by decide)⟩ hl.1 rfl (by simp [ab_cat, ab_cI, ab_cJ, ab_cD, ab_cF]) dX9_run_19 (fun H1 locs1 S => ?_)
    refine lv_if_ne (tgt := 27) X.1 X.2.1 dX9_run_22 (by decide) (fun c9 => ?_) (fun c9 => ?_)
    · have hF := ab_pos c9 hF
      refine lv_iconst (v := 0) X.1 X.2.1 dX9_run_27 (by decide) ?_
      refine lv_istore (lv' := [(5, .int 0), (0, va_rf (some this)), (1, .int p0), (2, .long p1), (4, .int p2)]) X.1 X.2.1 dX9_run_28 hl (by decide) (by simp [ab_cat, ab_cI, ab_cJ, ab_cD, ab_cF]) (fun ls hl => ?_)
      exact w_X9_run_30 X hr  fuelN _ _ _ _ _ _ _ _ _ S (lv_sub hl [1, 2, 3, 4, 0] rfl) hF
    · have hF := ab_neg (fun q => q c9) hF
      exact w_X9_run_25 X hr  S (lv_sub hl [] rfl) hF
